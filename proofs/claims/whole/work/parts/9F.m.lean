/-! ===== type: a text set ===== -/
theorem enb_c {q : Nat → Nat} {S S2 : Nat → Int32} (h : ∀ k, k < 26 → S k = S2 k) : enb q S = enb q S2 := by
  by_cases c : ∀ k, k < 26 → nI (q k) ≤ S k
  · rw [enb_t c, enb_t (fun k hk => by rw [← h k hk]; exact c k hk)]
  · rw [enb_f c, enb_f (fun z => c (fun k hk => by rw [h k hk]; exact z k hk))]
theorem tc_of {X : pm_II} {p f : Nat} {e : Option Nat} (h2 : X 17 2 = nI p) (h3 : X 17 3 = nI f) (h4 : X 17 4 = er e) : tc X p f e = X := by
  have := T3_id X
  rw [h2, h3, h4] at this
  exact this
section Set5
variable {u : Nat} {J : pm_JJ} {b : Nat → Int32} {n p W pa pb : Nat} {fr ln wd : Nat → Nat} {ga : Nat → Nat}
theorem m_laid2 {x : Int32} : ∀ (d k N : Nat) (Y : pm_II), k + d = 26 → d < N → (∀ j, j < k → Y 148 (j + 1) = 0) → ∃ Z, F_Mo_laid_2 u N x (nI (k + 1)) Y J = F_Mo_laid_23 u u x (0 : Int32) Z J ∧ On (fun c _ => c = 148) Y Z ∧ ∀ j, j < 26 → Z 148 (j + 1) = 0 := by
  intro d
  induction d with
  | zero =>
    intro k N Y hk hN h0
    obtain ⟨N, rfl⟩ : ∃ z, N = z + 1 := ⟨N - 1, by omega⟩
    obtain rfl : k = 26 := by omega
    exact ⟨Y, by rw [F_Mo_laid_2, if_pos (by decide)], On.refl _, h0⟩
  | succ d ih =>
    intro k N Y hk hN h0
    obtain ⟨N, rfl⟩ : ∃ z, N = z + 1 := ⟨N - 1, by omega⟩
    obtain ⟨Z, z1, z2, z3⟩ := ih (k + 1) N (pm_up Y 148 (k + 1) 0) (by omega) (by omega) (by
      intro j hj
      rw [ur]
      by_cases q : j = k
      · rw [if_pos ⟨rfl, by omega⟩]
      · rw [if_neg (fun z => q (by omega))]
        exact h0 j (by omega))
    refine ⟨Z, ?_, On.trans (On.up (On.refl _) rfl) z2, z3⟩
    rw [F_Mo_laid_2, show (26 : Int32) = nI 26 from rfl, if_neg (by rw [nI_ltI (by omega) (by omega)]; omega), vqT (show k + 1 < 27 by omega) (by omega), nI_clamp (by omega), nI_io1, nI_add]
    exact z1
theorem m_laid23 {x : Int32} : ∀ (d j N : Nat) (Y : pm_II), j + d = n → d < N → Mb b n Y → (∀ k, k < 26 → Y 148 (k + 1) = nI (cl b j k)) → ∃ Z, F_Mo_laid_23 u N x (nI j) Y J = F_Mo_laid_69 u u x (1 : Int32) Z J ∧ On (fun c _ => c = 148) Y Z ∧ ∀ k, k < 26 → Z 148 (k + 1) = nI (cl b n k) := by
  intro d
  induction d with
  | zero =>
    intro j N Y hj hN hb h0
    obtain ⟨N, rfl⟩ : ∃ z, N = z + 1 := ⟨N - 1, by omega⟩
    obtain rfl : j = n := by omega
    have hn16 := hb.2.2
    exact ⟨Y, by rw [F_Mo_laid_23, hb.2.1, if_pos (by rw [nI_leI (by omega) (by omega)]; omega)], On.refl _, h0⟩
  | succ d ih =>
    intro j N Y hj hN hb h0
    obtain ⟨N, rfl⟩ : ∃ z, N = z + 1 := ⟨N - 1, by omega⟩
    have hn16 := hb.2.2
    have hy : Y 122 j = b j := hb.1 j (by omega)
    by_cases c : ltr (b j)
    · obtain ⟨e1, e2⟩ := ltr_nI c
      have hs : (97 ≤ b j ∧ b j ≤ 122) := c
      have hcl := cl_le (b := b) (p := j) (k := lx b j)
      obtain ⟨Z, z1, z2, z3⟩ := ih (j + 1) N (pm_up Y 148 (lx b j + 1) (nI (cl b j (lx b j) + 1))) (by omega) (by omega) (hb.put (by decide) (by decide)) (by
        intro k hk
        rw [ur]
        by_cases q : k = lx b j
        · rw [if_pos ⟨rfl, by omega⟩, ← q, cl_s1 c q.symm]
        · rw [if_neg (fun z => q (by omega)), h0 k hk, cl_s0 (fun z => q z.2.symm)])
      refine ⟨Z, ?_, On.trans (On.up (On.refl _) rfl) z2, z3⟩
      rw [F_Mo_laid_23, hb.2.1, if_neg (by rw [nI_leI (by omega) (by omega)]; omega), vqT (show j < 1600 by omega) (by omega), nI_clamp (by omega), hy, m_isSmall, bd_s, decide_eq_true hs, b2i_if0, hy]
      have e3 : b j - 96 = nI (lx b j + 1) := by rw [e1, show (96 : Int32) = nI 96 from rfl, pk_sub (by omega), show 97 + lx b j - 96 = lx b j + 1 by omega]
      rw [e3, vqT (show lx b j + 1 < 27 by omega) (by omega), nI_clamp (by omega), h0 _ e2, nI_1, nI_io1, nI_add]
      exact z1
    · have hs : ¬ (97 ≤ b j ∧ b j ≤ 122) := c
      obtain ⟨Z, z1, z2, z3⟩ := ih (j + 1) N Y (by omega) (by omega) hb (by
        intro k hk
        rw [h0 k hk, cl_s0 (fun z => c z.1)])
      refine ⟨Z, ?_, z2, z3⟩
      rw [F_Mo_laid_23, hb.2.1, if_neg (by rw [nI_leI (by omega) (by omega)]; omega), vqT (show j < 1600 by omega) (by omega), nI_clamp (by omega), hy, m_isSmall, bd_s, decide_eq_false hs, b2i_if0, nI_io1, nI_add]
      exact z1
theorem m_laid69 {x : Int32} {q : Nat → Nat} {Y : pm_II} (h : ∀ k, k < 26 → Y 148 (k + 1) = nI (q k)) : ∀ (d k N : Nat), k + d = 26 → d < N → (∀ j, j < k → nI (q j) ≤ Y 146 (j + 1)) → F_Mo_laid_69 u N x (nI (k + 1)) Y J = cond (enb q (fun k => Y 146 (k + 1))) (F_Mo_laid_105 u u x (Y 120 56) (0 : Int32) Y J) (some ((0 : Int32), Y, J)) := by
  intro d
  induction d with
  | zero =>
    intro k N hk hN h0
    obtain ⟨N, rfl⟩ : ∃ z, N = z + 1 := ⟨N - 1, by omega⟩
    obtain rfl : k = 26 := by omega
    rw [F_Mo_laid_69, if_pos (by decide), enb_t h0, cond_true]
  | succ d ih =>
    intro k N hk hN h0
    obtain ⟨N, rfl⟩ : ∃ z, N = z + 1 := ⟨N - 1, by omega⟩
    rw [F_Mo_laid_69, show (26 : Int32) = nI 26 from rfl, if_neg (by rw [nI_ltI (by omega) (by omega)]; omega), vqT (show k + 1 < 27 by omega) (by omega), nI_clamp (by omega), h k (by omega), cond_true, cond_true]
    by_cases c : nI (q k) ≤ Y 146 (k + 1)
    · rw [if_pos c, nI_io1, nI_add]
      exact ih (k + 1) N (by omega) (by omega) (fun j hj => by
        by_cases e : j = k
        · subst e; exact c
        · exact h0 j (by omega))
    · rw [if_neg c, enb_f (fun z => c (z k (by omega))), cond_false]
theorem m_laidP {m : Nat} {Y : pm_II} (hu : 1700 ≤ u) (hb : Mb b n Y) : ∃ Z, F_Mo_laid u (nI m) Y J = cond (enb (cl b n) (fun k => Y 146 (k + 1))) (F_Mo_laid_105 u u (nI m) (Y 120 56) (0 : Int32) Z J) (some ((0 : Int32), Z, J)) ∧ On (fun c _ => c = 148) Y Z ∧ ∀ k, k < 26 → Z 148 (k + 1) = nI (cl b n k) := by
  have hn16 := hb.2.2
  obtain ⟨Z, z1, z2, z3⟩ := m_laid2 (u := u) (J := J) (x := nI m) 26 0 u Y (by omega) (by omega) (fun j hj => absurd hj (Nat.not_lt_zero _))
  obtain ⟨V, v1, v2, v3⟩ := m_laid23 (u := u) (J := J) (x := nI m) (b := b) (n := n) n 0 u Z (by omega) (by omega) (hb.on z2 (by omega) (fun j => by omega)) (fun k hk => by rw [z3 k hk]; rfl)
  have o := On.trans z2 v2
  refine ⟨V, ?_, o, v3⟩
  have h3 := m_laid69 (u := u) (J := J) (x := nI m) v3 26 0 u (by omega) (by omega) (fun j hj => absurd hj (Nat.not_lt_zero _))
  have e1 : enb (cl b n) (fun k => V 146 (k + 1)) = enb (cl b n) (fun k => Y 146 (k + 1)) := enb_c (fun k _ => o 146 (k + 1) (by omega))
  have e2 : V 120 56 = Y 120 56 := o 120 56 (by omega)
  rw [e1, e2] at h3
  rw [← h3]
  unfold F_Mo_laid
  exact z1.trans v1
theorem c_sub94 {x3 : Int32} : ∀ (d k N : Nat) (X : pm_II), k + d = 26 → d < N → ∃ Y, F_Ty_takeText_94 u pa pb ga N x3 (nI k) X J = some (x3, Y, J) ∧ On (fun c _ => c = 49) X Y ∧ ∀ j, Y 49 j = if k ≤ j ∧ j < 26 then X 49 j - X 51 j else X 49 j := by
  intro d
  induction d with
  | zero =>
    intro k N X hk hN
    obtain ⟨N, rfl⟩ : ∃ z, N = z + 1 := ⟨N - 1, by omega⟩
    obtain rfl : k = 26 := by omega
    exact ⟨X, by rw [F_Ty_takeText_94, if_pos (by decide)], On.refl _, fun j => by rw [if_neg (by omega)]⟩
  | succ d ih =>
    intro k N X hk hN
    obtain ⟨N, rfl⟩ : ∃ z, N = z + 1 := ⟨N - 1, by omega⟩
    obtain ⟨Y, y1, y2, y3⟩ := ih (k + 1) N (pm_up X 49 k (X 49 k - X 51 k)) (by omega) (by omega)
    refine ⟨Y, ?_, On.trans (On.up (On.refl _) rfl) y2, fun j => ?_⟩
    · rw [F_Ty_takeText_94, show (26 : Int32) = nI 26 from rfl, if_neg (by rw [nI_leI (by omega) (by omega)]; omega), vqT (show k < 26 by omega) (by omega), nI_clamp (by omega), nI_io1, nI_add]
      exact y1
    · rw [y3 j]
      by_cases q : j = k
      · subst q
        rw [if_neg (by omega), if_pos (by omega), ur, if_pos ⟨rfl, rfl⟩]
      · simp only [ur]
        have e : (k + 1 ≤ j ∧ j < 26) ↔ (k ≤ j ∧ j < 26) := by omega
        simp [q, e]
theorem m_sub161 {x2 : Int32} : ∀ (d k N : Nat) (X : pm_II), k + d = 26 → d < N → ∃ Y, F_Mo_laid_161 u N x2 (nI (k + 1)) X J = some (X 120 56 - x2, Y, J) ∧ On (fun c _ => c = 146) X Y ∧ ∀ j, Y 146 (j + 1) = if k ≤ j ∧ j < 26 then X 146 (j + 1) - X 148 (j + 1) else X 146 (j + 1) := by
  intro d
  induction d with
  | zero =>
    intro k N X hk hN
    obtain ⟨N, rfl⟩ : ∃ z, N = z + 1 := ⟨N - 1, by omega⟩
    obtain rfl : k = 26 := by omega
    exact ⟨X, by rw [F_Mo_laid_161, if_pos (by decide)], On.refl _, fun j => by rw [if_neg (by omega)]⟩
  | succ d ih =>
    intro k N X hk hN
    obtain ⟨N, rfl⟩ : ∃ z, N = z + 1 := ⟨N - 1, by omega⟩
    obtain ⟨Y, y1, y2, y3⟩ := ih (k + 1) N (pm_up X 146 (k + 1) (X 146 (k + 1) - X 148 (k + 1))) (by omega) (by omega)
    refine ⟨Y, ?_, On.trans (On.up (On.refl _) rfl) y2, fun j => ?_⟩
    · rw [F_Mo_laid_161, show (26 : Int32) = nI 26 from rfl, if_neg (by rw [nI_ltI (by omega) (by omega)]; omega), vqT (show k + 1 < 27 by omega) (by omega), nI_clamp (by omega), nI_io1, nI_add]
      exact y1
    · rw [y3 j]
      by_cases q : j = k
      · subst q
        rw [if_neg (by omega), if_pos (by omega), ur, if_pos ⟨rfl, rfl⟩]
      · simp only [ur]
        have e : (k + 1 ≤ j ∧ j < 26) ↔ (k ≤ j ∧ j < 26) := by omega
        simp [q, e]
/-- what the class writes without laying a line -/
def kA (c k : Nat) : Prop := (51 ≤ c ∧ c ≤ 55) ∨ (c = 48 ∧ k = 8)
def wwf (b : Nat → Int32) (wd fr ln : Nat → Nat) (v : Nat) : Nat := if ln v ≤ 12 then wsm b wd (fr v) (ln v) else 0
/-- how a text ends -/
def OutN (b : Nat → Int32) (n W m g : Nat) (ww : Nat → Nat) (S : Nat → Int32) : Prop := enb (cl b n) S = false ∨ (enb (cl b n) S = true ∧ ((∃ v, v < W ∧ m < ww v) ∨ ∃ k ls, Brk ww m W ls k ∧ 16 < g + k))
def ttT (u : Nat) (pa pb : Nat) (ga : Nat → Nat) (x2 : Int32) (X : pm_II) (J : pm_JJ) : Option (Int32 × pm_II × pm_JJ) := bd (F_Ty_measureWords u X J) fun _ I16 J16 => bd (F_Ty_enoughSorts u I16 J16) fun r20 I20 J20 => if r20 = 0 then (some ((0 : Int32), I20, J20)) else (bd (F_Ty_wordsFit u x2 I20 J20) fun r28 I28 J28 => if ¬ r28 = 0 then (bd (F_Ty_breakLines u x2 I28 J28) fun r38 I38 J38 => if ((I38 48 9) + r38) ≤ 16 then (F_Ty_takeText_58 u pa pb ga u x2 r38 (0 : Int32) I38 J38) else (some ((0 : Int32), I38, J38))) else (some ((0 : Int32), I28, J28)))
theorem wsm_1000 (hw : ∀ k, wd k ≤ 20) (v : Nat) : wwf b wd fr ln v ≤ 1000 := by
  unfold wwf
  split
  · have := wsm_le (b := b) (p := fr v) hw (ln v)
    omega
  · omega
theorem c_text {m g : Nat} {X : pm_II} (hu : 1700 ≤ u) (hG : G5 ga) (hT : TP b W fr ln p) (hn : n = p + 1) (h10 : b p = 10) (hw : ∀ k, wd k ≤ 20) (hm : m ≤ 200) (hb : Tb b n X) (hC : CW W fr ln wd X) (hg : g ≤ 16) (h9 : X 48 9 = nI g) : (∃ Y, ttT u pa pb ga (nI m) X J = some (0, Y, J) ∧ On kA X Y ∧ OutN b n W m g (wwf b wd fr ln) (X 49)) ∨ ∃ Y k ls, ttT u pa pb ga (nI m) X J = some (nI k, Y, J) ∧ On (fun c j => kA c j ∨ kC ga g c j ∨ c = 49) X Y ∧ enb (cl b n) (X 49) = true ∧ Brk (wwf b wd fr ln) m W ls k ∧ g + k ≤ 16 ∧ Y 48 9 = nI (g + k) ∧ (∀ j, j < 26 → Y 49 j = X 49 j - nI (cl b n j)) ∧ ∀ j, j < k → LD b fr ln (wwf b wd fr ln) W m (ga (g + j)) (ls j) (ls (j + 1)) Y := by
  have hW1 := hT.1.1
  have hW := hT.1.2.1
  have hw1 := wsm_1000 (b := b) (fr := fr) (ln := ln) hw
  obtain ⟨Y, y1, y2, y3, y4⟩ := c_measure (u := u) (J := J) (by omega) hT hn h10 hw hb hC
  have oA : On kA X Y := y2.mono (fun c k z => by unfold kM at z; unfold kA; omega)
  have y4' : ∀ w, w < W → Y 54 w = nI (wwf b wd fr ln w) := fun w hw2 => by
    unfold wwf
    rw [if_pos (hT.2.1 w hw2).2.1]
    exact y4 w hw2
  have eE : enb (cl b n) (Y 49) = enb (cl b n) (X 49) := enb_c (fun k _ => oA 49 k (by unfold kA; omega))
  have e1 : ttT u pa pb ga (nI m) X J = cond (enb (cl b n) (X 49)) (bd (F_Ty_wordsFit u (nI m) Y J) fun r28 I28 J28 => if ¬ r28 = 0 then (bd (F_Ty_breakLines u (nI m) I28 J28) fun r38 I38 J38 => if ((I38 48 9) + r38) ≤ 16 then (F_Ty_takeText_58 u pa pb ga u (nI m) r38 (0 : Int32) I38 J38) else (some ((0 : Int32), I38, J38))) else (some ((0 : Int32), I28, J28))) (some (0, Y, J)) := by
    unfold ttT
    rw [y1, bd_s, c_enough (by omega) y3, bd_s, b2i_if0, eE]
  rw [e1]
  cases hE : enb (cl b n) (X 49) with
  | false => exact Or.inl ⟨Y, rfl, oA, Or.inl hE⟩
  | true =>
    have h8Y : Y 48 8 = nI W := by rw [y2 48 8 (by unfold kM; omega)]; exact hC.1
    rw [cond_true, c_fit (by omega) hW h8Y hm hw1 y4', bd_s, b2i_ifn]
    cases hF : fit (wwf b wd fr ln) m W with
    | false =>
      refine Or.inl ⟨Y, rfl, oA, Or.inr ⟨hE, Or.inl ?_⟩⟩
      unfold fit at hF
      have hF := of_decide_eq_false hF
      apply Classical.byContradiction
      intro z
      exact hF (fun v hv => by
        apply Classical.byContradiction
        intro q
        exact z ⟨v, hv, by omega⟩)
    | true =>
      unfold fit at hF
      have hF := of_decide_eq_true hF
      obtain ⟨Z, k, ls, z1, z2, z3, z4⟩ := c_break (u := u) (J := J) (X := Y) (by omega) hW1 hW hm hF h8Y y4'
      have hk := z4.k
      have oB : On kA X Z := On.trans oA (z2.mono (fun c k z => by unfold kA; omega))
      have h9Z : Z 48 9 = nI g := by rw [oB 48 9 (by unfold kA; omega)]; exact h9
      rw [cond_true, z1, bd_s, h9Z, nI_add]
      by_cases c : g + k ≤ 16
      · rw [if_pos (by rw [show (16 : Int32) = nI 16 from rfl, nI_leI (by omega) (by omega)]; exact c)]
        have hbZ : Tb b n Z := hb.on oB (by unfold kA; omega) (fun j => by unfold kA; omega)
        have hCZ : CW W fr ln wd Z := ⟨by rw [z2 48 8 (by omega)]; exact h8Y, fun v hv => by rw [z2 52 v (by omega), z2 53 v (by omega), y2 52 v (by unfold kM; omega), y2 53 v (by unfold kM; omega)]; exact hC.2.1 v hv, fun k hk => by rw [z2 50 k (by omega), y2 50 k (by unfold kM; omega)]; exact hC.2.2 k hk⟩
        obtain ⟨V, v1, v2, v3, v4⟩ := c_lines (u := u) (J := J) (pa := pa) (pb := pb) (wd := wd) (g := g) (by omega) hG hT hn hm z4 c k 0 u Z (by omega) (by omega) hbZ hCZ (fun v hv => by rw [z2 54 v (by omega)]; exact y4' v hv) h9Z z3 (fun j hj => absurd hj (Nat.not_lt_zero _))
        obtain ⟨Q, q1, q2, q3⟩ := c_sub94 (u := u) (J := J) (pa := pa) (pb := pb) (ga := ga) (x3 := nI k) 26 0 u V (by omega) (by omega)
        refine Or.inr ⟨Q, k, ls, v1.trans q1, On.trans (On.trans (oB.mono (fun c k z => Or.inl z)) (v2.mono (fun c k z => Or.inr (Or.inl z)))) (q2.mono (fun c k z => Or.inr (Or.inr z))), rfl, z4, c, ?_, fun j hj => ?_, fun j hj => ?_⟩
        · rw [q2 48 9 (by omega)]; exact v3
        · rw [q3 j, if_pos (by omega), v2 49 j (fun z => by have := kC_r hG z; omega), v2 51 j (fun z => by have := kC_r hG z; omega), oB 49 j (by unfold kA; omega), z2 51 j (by omega), y3 j hj]
        · have hr := oT_r (hG.1 (g + j) (by omega))
          exact (v4 j hj).on q2 (fun x => by omega) (fun x => by omega)
      · rw [if_neg (by rw [show (16 : Int32) = nI 16 from rfl, nI_leI (by omega) (by omega)]; exact c)]
        exact Or.inl ⟨Z, rfl, oB, Or.inr ⟨hE, Or.inr ⟨k, ls, z4, by omega⟩⟩⟩
/-- what the model writes -/
def kB (g c k : Nat) : Prop := c = 148 ∨ kMr g c k
theorem m_textN {m g : Nat} {Y : pm_II} (hu : 1700 ≤ u) (hT : TP b W fr ln p) (hn : n = p + 1) (h10 : b p = 10) (hw : ∀ k, wd k ≤ 20) (hm : m ≤ 200) (hb : Mb b n Y) (hM : MW wd Y) (hg : g ≤ 16) (h56 : Y 120 56 = nI g) (hO : OutN b n W m g (wwf b wd fr ln) (fun k => Y 146 (k + 1))) : ∃ Z, F_Mo_laid u (nI m) Y J = some (0, Z, J) ∧ On (kB g) Y Z ∧ Z 120 56 = nI g := by
  obtain ⟨Z, z1, z2, z3⟩ := m_laidP (u := u) (J := J) (m := m) hu hb
  have hw1 := wsm_1000 (b := b) (fr := fr) (ln := ln) hw
  have hww : ∀ v, v < W → wwf b wd fr ln v = wsm b wd (fr v) (ln v) := fun v hv => by
    unfold wwf
    rw [if_pos (hT.2.1 v hv).2.1]
  have hbZ : Mb b n Z := hb.on z2 (by omega) (fun j => by omega)
  have hMZ : MW wd Z := fun k hk => by rw [z2 147 _ (by omega)]; exact hM k hk
  have h56Z : Z 120 56 = nI g := by rw [z2 120 56 (by omega)]; exact h56
  have oZ : On (kB g) Y Z := z2.mono (fun c k z => Or.inl z)
  rw [z1, h56]
  rcases hO with hO | ⟨hE, hO⟩
  · rw [hO]
    exact ⟨Z, rfl, oZ, h56Z⟩
  · rw [hE, cond_true]
    have e0 : (0 : Int32) = nI (fr 0) := by rw [hT.1.2.2]; rfl
    rcases hO with ⟨v, hv, hvm⟩ | ⟨k, ls, hB, hgk⟩
    · obtain ⟨V, v1, v2⟩ := m_linesU (u := u) (J := J) (wd := wd) (ww := wwf b wd fr ln) (g0 := g) (by omega) hT hn h10 hww hw1 hm hv hvm u 0 g Z (Nat.zero_le _) (by have := hT.1.2.1; omega) (Nat.le_refl _) hg hbZ hMZ h56Z
      rw [← e0] at v1
      rw [v1]
      exact ⟨_, rfl, On.up (On.trans oZ (v2.mono (fun c k z => Or.inr z))) (Or.inr (Or.inr ⟨rfl, rfl⟩)), rfl⟩
    · obtain ⟨V, v1, v2⟩ := m_linesF (u := u) (J := J) (wd := wd) (ww := wwf b wd fr ln) (g := g) (by omega) hT hn h10 hww hw1 hm hB hg hgk (16 - g) 0 u Z (by omega) (by omega) hbZ hMZ h56Z
      have e1 : ps fr W n (ls 0) = fr 0 := by unfold ps; rw [hB.2.1, if_pos (by have := hT.1.1; omega)]
      rw [e1] at v1
      rw [← e0] at v1
      rw [v1]
      exact ⟨_, rfl, On.up (On.trans oZ (v2.mono (fun c k z => Or.inr z))) (Or.inr (Or.inr ⟨rfl, rfl⟩)), rfl⟩
theorem m_textY {m g k : Nat} {ls : Nat → Nat} {Y : pm_II} (hu : 1700 ≤ u) (hT : TP b W fr ln p) (hn : n = p + 1) (h10 : b p = 10) (hw : ∀ k, wd k ≤ 20) (hm : m ≤ 200) (hb : Mb b n Y) (hM : MW wd Y) (h56 : Y 120 56 = nI g) (hE : enb (cl b n) (fun k => Y 146 (k + 1)) = true) (hB : Brk (wwf b wd fr ln) m W ls k) (hgk : g + k ≤ 16) : ∃ Z, F_Mo_laid u (nI m) Y J = some (nI k, Z, J) ∧ On (fun c j => kB g c j ∨ c = 146) Y Z ∧ Z 120 56 = nI (g + k) ∧ (∀ j, j < 26 → Z 146 (j + 1) = Y 146 (j + 1) - nI (cl b n j)) ∧ ∀ j, j < k → MD b fr ln (wwf b wd fr ln) W m (g + j) (ls j) (ls (j + 1)) Z := by
  obtain ⟨Z, z1, z2, z3⟩ := m_laidP (u := u) (J := J) (m := m) hu hb
  have hw1 := wsm_1000 (b := b) (fr := fr) (ln := ln) hw
  have hww : ∀ v, v < W → wwf b wd fr ln v = wsm b wd (fr v) (ln v) := fun v hv => by
    unfold wwf
    rw [if_pos (hT.2.1 v hv).2.1]
  have hbZ : Mb b n Z := hb.on z2 (by omega) (fun j => by omega)
  have hMZ : MW wd Z := fun k hk => by rw [z2 147 _ (by omega)]; exact hM k hk
  have h56Z : Z 120 56 = nI g := by rw [z2 120 56 (by omega)]; exact h56
  obtain ⟨V, v1, v2, v3, v4⟩ := m_lines (u := u) (J := J) (wd := wd) (ww := wwf b wd fr ln) (g := g) (by omega) hT hn h10 hww hw1 hm hB hgk k 0 u Z (by omega) (by omega) hbZ hMZ h56Z (fun j hj => absurd hj (Nat.not_lt_zero _))
  have e1 : ps fr W n (ls 0) = fr 0 := by unfold ps; rw [hB.2.1, if_pos (by have := hT.1.1; omega)]
  have e0 : (0 : Int32) = nI (fr 0) := by rw [hT.1.2.2]; rfl
  obtain ⟨Q, q1, q2, q3⟩ := m_sub161 (u := u) (J := J) (x2 := nI g) 26 0 u V (by omega) (by omega)
  refine ⟨Q, ?_, On.trans (On.trans (z2.mono (fun c k z => Or.inl (Or.inl z))) (v2.mono (fun c k z => Or.inl (Or.inr z)))) (q2.mono (fun c k z => Or.inr z)), ?_, fun j hj => ?_, fun j hj => ?_⟩
  · rw [e1] at v1
    rw [← e0] at v1
    rw [z1, hE, cond_true, h56, v1]
    have e2 : nI (0 + 1) = (1 : Int32) := rfl
    rw [e2] at q1
    rw [q1, v3, pk_sub (by omega), show g + k - g = k by omega]
  · rw [q2 120 56 (by omega)]; exact v3
  · rw [q3 j, if_pos (by omega), v2 146 _ (fun z => by have := kMr_r z; omega), v2 148 _ (fun z => by have := kMr_r z; omega), z2 146 _ (by omega), z3 j hj]
  · obtain ⟨a1, a2, a3, a4, a5⟩ := v4 j hj
    exact ⟨by rw [q2 _ _ (by omega)]; exact a1, by rw [q2 _ _ (by omega)]; exact a2, by rw [q2 _ _ (by omega)]; exact a3, fun x hx => by rw [q2 _ _ (by omega)]; exact a4 x hx, fun x hx => by rw [q2 _ _ (by omega)]; exact a5 x hx⟩
end Set5
