/-! ===== type: a line laid by the class, whole ===== -/
def wS (ww : Nat → Nat) (each ones s : Nat) : Nat → Nat
  | 0 => ww s
  | j + 1 => wS ww each ones s j + spw each ones j + ww (s + j + 1)
theorem wS_eq {ww : Nat → Nat} {each ones s : Nat} : ∀ j, wS ww each ones s j = lwd ww s j + j * each + min j ones
  | 0 => by
    show ww s = ww s + 0 * each + min 0 ones
    rw [Nat.zero_mul]
    omega
  | j + 1 => by
    have h1 := wS_eq (ww := ww) (each := each) (ones := ones) (s := s) j
    have e1 : wS ww each ones s (j + 1) = wS ww each ones s j + spw each ones j + ww (s + j + 1) := rfl
    have e2 : lwd ww s (j + 1) = lwd ww s j + 3 + ww (s + j + 1) := rfl
    rw [e1, h1, e2, Nat.succ_mul]
    unfold spw
    split <;> omega
theorem TP_d {b : Nat → Int32} {w p : Nat} {fr ln : Nat → Nat} (h : TP b w fr ln p) : ∀ d v, v + d < w → fr v ≤ fr (v + d) ∧ fr (v + d) ≤ fr v + 13 * d
  | 0, v, _ => by rw [Nat.add_zero]; omega
  | d + 1, v, hv => by
    have h1 := TP_d h d v (by omega)
    have h2 := (h.2.2.1 (v + d) (by omega)).1
    have h3 := (h.2.1 (v + d) (by omega)).2.1
    rw [show v + (d + 1) = v + d + 1 by omega]
    omega
theorem TP_155 {b : Nat → Int32} {w p s v : Nat} {fr ln : Nat → Nat} (h : TP b w fr ln p) (hs : s ≤ v) (hv : v < w) : fr s ≤ fr v ∧ fr v + ln v - fr s ≤ 155 := by
  have h1 := TP_d h (v - s) s (by omega)
  rw [show s + (v - s) = v by omega] at h1
  have h2 := (h.2.1 v hv).2.1
  have h3 := h.1.2.1
  omega
theorem TP_pos {b : Nat → Int32} {w p : Nat} {fr ln : Nat → Nat} (h : TP b w fr ln p) : ∀ v, v < w → ∀ j, j < fr v + ln v → ltr (b j) ∨ b j = 32
  | 0, hv, j, hj => by
    rw [h.1.2.2] at hj
    have := (h.2.1 0 hv).2.2 j (by omega)
    rw [h.1.2.2, Nat.zero_add] at this
    exact Or.inl this
  | v + 1, hv, j, hj => by
    obtain ⟨h1, h2⟩ := h.2.2.1 v hv
    by_cases c : j < fr v + ln v
    · exact TP_pos h v (by omega) j c
    · by_cases c2 : j = fr v + ln v
      · rw [c2]; exact Or.inr h2
      · have := (h.2.1 (v + 1) hv).2.2 (j - fr (v + 1)) (by omega)
        rw [show fr (v + 1) + (j - fr (v + 1)) = j by omega] at this
        exact Or.inl this
section LayL
variable {u : Nat} {J : pm_JJ} {b : Nat → Int32} {n p W pa pb : Nat} {fr ln wd ww : Nat → Nat} {ga : Nat → Nat} {a : Nat}
theorem spw_pos {each ones : Nat} (h : each ≤ 1000) : ∀ q, 0 < spw each ones q ∧ spw each ones q < 2 ^ 20 := by
  intro q
  unfold spw
  split <;> omega
theorem l154 {s t each ones g : Nat} (hu : 40 ≤ u) (hT : TP b W fr ln p) (hn : n = p + 1) (ht : t ≤ W) (he : each ≤ 1000) (ho : ones ≤ 1000) (ha : 57 ≤ a ∧ a + 1 ≤ 88) (hg : g < 16) : ∀ (d j N : Nat) (X : pm_II), s + j + d = t → d < N → 1 ≤ j → Tb b n X → CW W fr ln wd X → (∀ v, v < W → X 54 v = nI (ww v)) → X 48 9 = nI g → LB (xf b (fr s)) (spw each ones) a (fr (s + j - 1) + ln (s + j - 1) - fr s) j (j - 1) (wS ww each ones s (j - 1)) X → ∃ Y, F_Ty_layLine_154 u pa pb ga N (nI s) (nI t) (nI each) (nI ones) a (nI (s + j)) X J = some ((), Y, J) ∧ On (fun c k => kL a c k ∨ (c = 48 ∧ k = 9)) X Y ∧ Y 48 9 = nI (g + 1) ∧ LB (xf b (fr s)) (spw each ones) a (fr (t - 1) + ln (t - 1) - fr s) (t - s) (t - s - 1) (wS ww each ones s (t - s - 1)) Y := by
  intro d
  have hW := hT.1.2.1
  induction d with
  | zero =>
    intro j N X hj hN hj1 hb hC h54 h9 hL
    obtain ⟨N, rfl⟩ : ∃ z, N = z + 1 := ⟨N - 1, by omega⟩
    obtain rfl : t = s + j := by omega
    rw [show s + j - s = j by omega]
    refine ⟨pm_up X 48 9 (nI (g + 1)), ?_, On.up (On.refl _) (Or.inr ⟨rfl, rfl⟩), rfl, hL.on (S := fun c k => c = 48 ∧ k = 9) (On.up (On.refl _) ⟨rfl, rfl⟩) (fun j => by omega) (fun j => by omega)⟩
    rw [F_Ty_layLine_154, if_pos (by rw [nI_leI (by omega) (by omega)]; omega), h9, nI_1]
  | succ d ih =>
    intro j N X hj hN hj1 hb hC h54 h9 hL
    obtain ⟨N, rfl⟩ : ∃ z, N = z + 1 := ⟨N - 1, by omega⟩
    obtain ⟨h32a, h32b⟩ := hT.2.2.1 (s + j - 1) (by omega)
    rw [show s + j - 1 + 1 = s + j by omega] at h32a
    have h155 := TP_155 hT (show s ≤ s + j by omega) (by omega)
    have h156 := TP_155 hT (show s ≤ s + j - 1 by omega) (by omega)
    have hl1 := (hT.2.1 (s + j) (by omega)).1
    have hx0 : xf b (fr s) (fr (s + j - 1) + ln (s + j - 1) - fr s) = 0 := by
      unfold xf
      rw [show fr s + (fr (s + j - 1) + ln (s + j - 1) - fr s) = fr (s + j - 1) + ln (s + j - 1) by omega]
      exact xk_b h32b
    obtain ⟨Y, y1, y2, y3⟩ := tl_space (u := u) (J := J) hL (by omega) hx0 (spw_pos he)
    have hbY : Tb b n Y := hb.on y2 (by unfold kL; omega) (fun j => by unfold kL; omega)
    have hCY : CW W fr ln wd Y := hC.on y2 (by unfold kL; omega) (fun j => by unfold kL; omega) (fun j => by unfold kL; omega) (fun j => by unfold kL; omega)
    have h54Y : ∀ v, v < W → Y 54 v = nI (ww v) := fun v hv => by rw [y2 54 v (by unfold kL; omega)]; exact h54 v hv
    have h9Y : Y 48 9 = nI g := by rw [y2 48 9 (by unfold kL; omega)]; exact h9
    rw [show fr (s + j - 1) + ln (s + j - 1) - fr s + 1 = fr (s + j) - fr s by omega, show j - 1 + 1 = j by omega] at y3
    obtain ⟨Z, z1, z2, z3⟩ := c_layWord (u := u) (J := J) (wd := wd) (ww := ww) hu hT hn (show s + j < W by omega) h155.1 h155.2 ha hbY hCY (h54Y _ (by omega)) y3
    have hbZ : Tb b n Z := hbY.on z2 (by unfold kL; omega) (fun j => by unfold kL; omega)
    have hCZ : CW W fr ln wd Z := hCY.on z2 (by unfold kL; omega) (fun j => by unfold kL; omega) (fun j => by unfold kL; omega) (fun j => by unfold kL; omega)
    have h54Z : ∀ v, v < W → Z 54 v = nI (ww v) := fun v hv => by rw [z2 54 v (by unfold kL; omega)]; exact h54Y v hv
    have h9Z : Z 48 9 = nI g := by rw [z2 48 9 (by unfold kL; omega)]; exact h9Y
    have hw : wS ww each ones s (j - 1) + spw each ones (j - 1) + ww (s + j) = wS ww each ones s j := by
      obtain ⟨q, rfl⟩ : ∃ q, j = q + 1 := ⟨j - 1, by omega⟩
      rfl
    rw [hw, show fr (s + j) - fr s + ln (s + j) = fr (s + (j + 1) - 1) + ln (s + (j + 1) - 1) - fr s by rw [show s + (j + 1) - 1 = s + j by omega]; omega] at z3
    obtain ⟨V, v1, v2, v3, v4⟩ := ih (j + 1) N Z (by omega) (by omega) (by omega) hbZ hCZ h54Z h9Z (by rw [show j + 1 - 1 = j by omega]; exact z3)
    refine ⟨V, ?_, On.trans ((On.trans y2 z2).mono (fun c k z => Or.inl z)) v2, v3, v4⟩
    have h189 : ∀ y : Nat, spw each ones (j - 1) = 3 + each + y → F_Ty_layLine_189 u pa pb ga (F_Ty_layLine_154 u pa pb ga N) (nI s) (nI t) (nI each) (nI ones) a (nI (s + j)) a ((3 : Int32) + nI each) (nI y) X J = some ((), V, J) := by
      intro y hy
      unfold F_Ty_layLine_189 F_Ty_layLine_193
      rw [show (3 : Int32) = nI 3 from rfl, nI_add, nI_add, ← hy, y1, bd_s, z1, bd_s, nI_io1, nI_add]
      exact v1
    rw [F_Ty_layLine_154, if_neg (by rw [nI_leI (by omega) (by omega)]; omega), if_neg (by rw [nI_leI (by omega) (by omega)]; omega), pk_sub (by omega), show s + j - s = j by omega]
    simp (disch := omega) only [nI_ltI]
    by_cases c : ones < j
    · rw [if_pos c]
      exact h189 0 (by unfold spw; rw [if_neg (by omega)])
    · rw [if_neg c]
      exact h189 1 (by unfold spw; rw [if_pos (by omega)])
theorem l132 {s t each ones g : Nat} {X : pm_II} (hu : 40 ≤ u) (hT : TP b W fr ln p) (hn : n = p + 1) (hst : s < t) (ht : t ≤ W) (he : each ≤ 1000) (ho : ones ≤ 1000) (ha : 57 ≤ ga g ∧ ga g + 1 ≤ 88) (hg : g < 16) (hb : Tb b n X) (hC : CW W fr ln wd X) (h54 : ∀ v, v < W → X 54 v = nI (ww v)) (h9 : X 48 9 = nI g) : ∃ Y, F_Ty_layLine_132 u pa pb ga (nI s) (nI t) (nI each) (nI ones) X J = some ((), Y, J) ∧ On (fun c k => kL (ga g) c k ∨ (c = 48 ∧ k = 9)) X Y ∧ Y 48 9 = nI (g + 1) ∧ LB (xf b (fr s)) (spw each ones) (ga g) (fr (t - 1) + ln (t - 1) - fr s) (t - s) (t - s - 1) (wS ww each ones s (t - s - 1)) Y := by
  have hW := hT.1.2.1
  obtain ⟨Y, y1, y2, y3⟩ := tl_start (u := u) (J := J) (x := xf b (fr s)) (s := spw each ones) (a := ga g) (X := X)
  have hbY : Tb b n Y := hb.on y2 (by unfold kL; omega) (fun j => by unfold kL; omega)
  have hCY : CW W fr ln wd Y := hC.on y2 (by unfold kL; omega) (fun j => by unfold kL; omega) (fun j => by unfold kL; omega) (fun j => by unfold kL; omega)
  have h54Y : ∀ v, v < W → Y 54 v = nI (ww v) := fun v hv => by rw [y2 54 v (by unfold kL; omega)]; exact h54 v hv
  have h9Y : Y 48 9 = nI g := by rw [y2 48 9 (by unfold kL; omega)]; exact h9
  have h155 := TP_155 hT (Nat.le_refl s) (by omega)
  obtain ⟨Z, z1, z2, z3⟩ := c_layWord (u := u) (J := J) (wd := wd) (ww := ww) (f0 := fr s) hu hT hn (show s < W by omega) (Nat.le_refl _) h155.2 ha hbY hCY (h54Y _ (by omega)) (by rw [Nat.sub_self]; exact y3)
  have hbZ : Tb b n Z := hbY.on z2 (by unfold kL; omega) (fun j => by unfold kL; omega)
  have hCZ : CW W fr ln wd Z := hCY.on z2 (by unfold kL; omega) (fun j => by unfold kL; omega) (fun j => by unfold kL; omega) (fun j => by unfold kL; omega)
  have h54Z : ∀ v, v < W → Z 54 v = nI (ww v) := fun v hv => by rw [z2 54 v (by unfold kL; omega)]; exact h54Y v hv
  have h9Z : Z 48 9 = nI g := by rw [z2 48 9 (by unfold kL; omega)]; exact h9Y
  obtain ⟨N, hN⟩ : ∃ z, u = z + 1 := ⟨u - 1, by omega⟩
  obtain ⟨V, v1, v2, v3, v4⟩ := l154 (u := u) (J := J) (pa := pa) (pb := pb) (ga := ga) (wd := wd) (ww := ww) (s := s) (t := t) (each := each) (ones := ones) hu hT hn ht he ho ha hg (t - s - 1) 1 N Z (by omega) (by omega) (Nat.le_refl _) hbZ hCZ h54Z h9Z (by
    rw [show s + 1 - 1 = s by omega, show fr s + ln s - fr s = fr s - fr s + ln s by omega]
    have e0 : 0 + ww s = wS ww each ones s (1 - 1) := by rw [Nat.zero_add]; rfl
    rw [← e0]
    exact z3)
  refine ⟨V, ?_, On.trans ((On.trans y2 z2).mono (fun c k z => Or.inl z)) v2, v3, v4⟩
  unfold F_Ty_layLine_132
  rw [h9, vqT hg (by omega), nI_clamp (by omega), y1, cond_true, bd_s]
  have e : ∀ Q : pm_II, F_Ty_layLine_154 u pa pb ga u (nI s) (nI t) (nI each) (nI ones) (ga g) (nI s) Q J = F_Ty_layLine_154 u pa pb ga (N + 1) (nI s) (nI t) (nI each) (nI ones) (ga g) (nI s) Q J := fun Q => by rw [← hN]
  rw [e, F_Ty_layLine_154, if_neg (by rw [nI_leI (by omega) (by omega)]; omega), if_pos (by rw [nI_leI (by omega) (by omega)]; omega)]
  unfold F_Ty_layLine_193
  rw [z1, bd_s, nI_io1, nI_add]
  exact v1
theorem l73 {s t m c : Nat} {X : pm_II} (hW : W ≤ 12) (ht : t ≤ W) (hc : s + c + 1 = t) (h54 : ∀ v, v < W → X 54 v = nI (ww v)) (hm : lwd ww s c ≤ m) (hm2 : m ≤ 200) : ∀ (d j N : Nat), j + d = c + 1 → d < N → F_Ty_layLine_73 u pa pb ga N 0 (nI s) (nI t) (nI c) (nI (m - 3 * c - sumN (fun j => ww (s + j)) j)) (nI (s + j)) X J = F_Ty_layLine_102 u pa pb ga (nI s) (nI t) (nI c) (nI (m - lwd ww s c)) X J := by
  intro d
  rw [lwd_sum] at hm
  induction d with
  | zero =>
    intro j N hj hN
    obtain ⟨N, rfl⟩ : ∃ z, N = z + 1 := ⟨N - 1, by omega⟩
    obtain rfl : j = c + 1 := by omega
    rw [F_Ty_layLine_73, if_pos (by rw [nI_leI (by omega) (by omega)]; omega), lwd_sum, show m - 3 * c - sumN (fun j => ww (s + j)) (c + 1) = m - (sumN (fun j => ww (s + j)) (c + 1) + 3 * c) by omega]
  | succ d ih =>
    intro j N hj hN
    obtain ⟨N, rfl⟩ : ∃ z, N = z + 1 := ⟨N - 1, by omega⟩
    have hmo : ∀ i k, sumN (fun j => ww (s + j)) i ≤ sumN (fun j => ww (s + j)) (i + k) := by
      intro i k
      induction k with
      | zero => exact Nat.le_refl _
      | succ k ihk => exact Nat.le_trans ihk (Nat.le_add_right _ _)
    have h1 := hmo (j + 1) (c - j)
    rw [show j + 1 + (c - j) = c + 1 by omega] at h1
    have e : sumN (fun j => ww (s + j)) (j + 1) = sumN (fun j => ww (s + j)) j + ww (s + j) := rfl
    have := ih (j + 1) N (by omega) (by omega)
    rw [F_Ty_layLine_73, if_neg (by rw [nI_leI (by omega) (by omega)]; omega), if_neg (by decide), vqT (show s + j < 12 by omega) (by omega), nI_clamp (by omega), h54 _ (by omega), pk_sub (by omega), nI_io1, nI_add, cond_true, show m - 3 * c - sumN (fun j => ww (s + j)) j - ww (s + j) = m - 3 * c - sumN (fun j => ww (s + j)) (j + 1) by omega]
    exact this
/-- what is left over in a line -/
def fre (last : Bool) (m l : Nat) : Nat := cond last 0 (m - l)
theorem c_layLine {i s t g m : Nat} {last : Bool} {X : pm_II} (hu : 40 ≤ u) (hT : TP b W fr ln p) (hn : n = p + 1) (hi : i < 12) (hst : s < t) (ht : t ≤ W) (hl : lwd ww s (t - s - 1) ≤ m) (hm2 : m ≤ 200) (ha : 57 ≤ ga g ∧ ga g + 1 ≤ 88) (hg : g < 16) (hb : Tb b n X) (hC : CW W fr ln wd X) (h54 : ∀ v, v < W → X 54 v = nI (ww v)) (h9 : X 48 9 = nI g) (h55 : X 55 i = nI s) (h56 : X 55 (i + 1) = nI t) : ∃ Y each ones, F_Ty_layLine u pa pb ga (nI i) (b2i last) (nI m) X J = some ((), Y, J) ∧ On (fun c k => kL (ga g) c k ∨ (c = 48 ∧ k = 9)) X Y ∧ Y 48 9 = nI (g + 1) ∧ (0 < t - s - 1 → each = fre last m (lwd ww s (t - s - 1)) / (t - s - 1) ∧ ones = fre last m (lwd ww s (t - s - 1)) % (t - s - 1)) ∧ each ≤ 200 ∧ LB (xf b (fr s)) (spw each ones) (ga g) (fr (t - 1) + ln (t - 1) - fr s) (t - s) (t - s - 1) (wS ww each ones s (t - s - 1)) Y := by
  have hW := hT.1.2.1
  have h102 : F_Ty_layLine u pa pb ga (nI i) (b2i last) (nI m) X J = F_Ty_layLine_102 u pa pb ga (nI s) (nI t) (nI (t - s - 1)) (nI (fre last m (lwd ww s (t - s - 1)))) X J := by
    unfold F_Ty_layLine
    rw [if_neg (nI_pos (by omega)), show (12 : Int32) = nI 12 from rfl, if_neg (by rw [nI_leI (by omega) (by omega)]; omega), h9, show (16 : Int32) = nI 16 from rfl, if_pos (by rw [nI_ltI (by omega) (by omega)]; omega), vqT (show i < 13 by omega) (by omega), nI_1, vqT (show i + 1 < 13 by omega) (by omega), nI_clamp (by omega), nI_clamp (by omega), h55, h56, j_minN (by omega) (by omega), bd_s, show min t 12 = t by omega, pk_sub (by omega), nl_1, pk_sub (by omega), cond_true, cond_true]
    obtain ⟨N, hN⟩ : ∃ z, u = z + 1 := ⟨u - 1, by omega⟩
    cases last with
    | true =>
      rw [if_neg (by decide)]
      have e : ∀ Q x7, F_Ty_layLine_73 u pa pb ga u (b2i true) (nI s) (nI t) (nI (t - s - 1)) Q x7 X J = F_Ty_layLine_73 u pa pb ga (N + 1) (b2i true) (nI s) (nI t) (nI (t - s - 1)) Q x7 X J := fun Q x7 => by rw [← hN]
      rw [e, F_Ty_layLine_73, if_neg (by rw [nI_leI (by omega) (by omega)]; omega), if_pos (by decide)]
      rfl
    | false =>
      have h3 := lwd_sum (ww := ww) (s := s) (t - s - 1)
      rw [if_pos (by decide), show (3 : Int32) = nI 3 from rfl, pk_mul, pk_sub (by omega)]
      have := l73 (u := u) (J := J) (pa := pa) (pb := pb) (ga := ga) (X := X) hW ht (show s + (t - s - 1) + 1 = t by omega) h54 hl hm2 (t - s - 1 + 1) 0 u (by omega) (by omega)
      rw [Nat.mul_comm (t - s - 1) 3]
      exact this
  rw [h102]
  have hfr : fre last m (lwd ww s (t - s - 1)) ≤ 200 := by
    unfold fre
    cases last <;> simp <;> omega
  unfold F_Ty_layLine_102
  by_cases c : t - s - 1 = 0
  · obtain ⟨Y, y1, y2, y3, y4⟩ := l132 (u := u) (J := J) (pa := pa) (pb := pb) (wd := wd) (ww := ww) (each := 0) (ones := 0) hu hT hn hst ht (by omega) (by omega) ha hg hb hC h54 h9
    refine ⟨Y, 0, 0, ?_, y2, y3, fun z => by omega, by omega, y4⟩
    unfold F_Ty_layLine_116
    rw [c, if_pos (by decide), if_pos (by decide)]
    exact y1
  · have hd1 : fre last m (lwd ww s (t - s - 1)) / (t - s - 1) ≤ 200 := Nat.le_trans (Nat.div_le_self _ _) hfr
    have hd2 : fre last m (lwd ww s (t - s - 1)) % (t - s - 1) ≤ 200 := Nat.le_trans (Nat.mod_le _ _) hfr
    obtain ⟨Y, y1, y2, y3, y4⟩ := l132 (u := u) (J := J) (pa := pa) (pb := pb) (wd := wd) (ww := ww) (each := fre last m (lwd ww s (t - s - 1)) / (t - s - 1)) (ones := fre last m (lwd ww s (t - s - 1)) % (t - s - 1)) hu hT hn hst ht (by omega) (by omega) ha hg hb hC h54 h9
    refine ⟨Y, _, _, ?_, y2, y3, fun _ => ⟨rfl, rfl⟩, by omega, y4⟩
    have hne : ¬ nI (t - s - 1) ≤ 0 := by rw [← nI_0, nI_leI (by omega) (by omega)]; omega
    have hne0 : ¬ nI (t - s - 1) = 0 := by rw [i0_iff (by omega)]; exact c
    rw [if_neg hne, if_pos hne0]
    unfold F_Ty_layLine_116
    rw [if_neg hne, if_pos hne0, pk_rem (by omega) (by omega) (by omega), pk_div (by omega) (by omega) (by omega)]
    exact y1
end LayL
