/-! ===== type: the words are read ===== -/
theorem rl_let (b : Nat → Int32) : ∀ m k p j, j < r_ll b false m k p → ltr (b (p + j))
  | 0, _, _, j, h => absurd h (Nat.not_lt_zero _)
  | m + 1, k, p, j, h => by
    unfold r_ll at h
    split at h
    · rename_i c
      cases j with
      | zero =>
        rcases c with c | c
        · exact c
        · exact absurd c.1 (by decide)
      | succ j =>
        have := rl_let b m (k + 1) (p + 1) j (by omega)
        rw [show p + (j + 1) = p + 1 + j by omega]
        exact this
    · exact absurd h (Nat.not_lt_zero _)
theorem rl_end (b : Nat → Int32) : ∀ m k p, r_ll b false m k p < m → ¬ ltr (b (p + r_ll b false m k p))
  | 0, _, _, h => absurd h (Nat.not_lt_zero _)
  | m + 1, k, p, h => by
    unfold r_ll at h ⊢
    split
    · rename_i c
      rw [if_pos c] at h
      have := rl_end b m (k + 1) (p + 1) (by omega)
      rw [show p + (r_ll b false m (k + 1) (p + 1) + 1) = p + 1 + r_ll b false m (k + 1) (p + 1) by omega]
      exact this
    · rename_i c
      exact fun z => c (Or.inl z)
/-- how long the word is that begins there, up to 12 -/
def wl (b : Nat → Int32) (n p : Nat) : Nat := q_ll b n p none 12 false
theorem wl_le {b : Nat → Int32} {n p : Nat} : wl b n p ≤ n - p ∧ wl b n p ≤ 12 := q_ll_le
theorem wl_let {b : Nat → Int32} {n p j : Nat} (h : j < wl b n p) : ltr (b (p + j)) := rl_let b _ _ _ _ h
theorem wl_end {b : Nat → Int32} {n p : Nat} (h : wl b n p < 12) (h2 : p + wl b n p < n) : ¬ ltr (b (p + wl b n p)) := rl_end b _ _ _ (show wl b n p < min 12 (n - p) by omega)
/-- where the model's fault is behind a word -/
def wE (b : Nat → Int32) (n p : Nat) : Option Nat := if wl b n p = 0 then some p else if wl b n p = 12 ∧ p + 12 < n ∧ (97 ≤ b (p + 12) ∧ b (p + 12) ≤ 122) then some (p + 12) else none
theorem ltr_ne {c : Int32} (h : ltr c) : ¬ c = 32 ∧ ¬ c = 10 ∧ ¬ c = -1 := by
  refine ⟨fun z => ?_, fun z => ?_, fun z => ?_⟩ <;> (subst z; revert h; unfold ltr; decide)
section Words
variable {u : Nat} {M : pm_II} {J : pm_JJ} {b : Nat → Int32} {n p : Nat} {x : Int32}
theorem m_set98S {K : Int32 → Int32 → pm_II → pm_JJ → Option (Int32 × pm_II × pm_JJ)} {k y N : Nat} {z : Int32} (ho : Om n p (some y)) (hb : Mb b n M) : F_Mo_set_98 u K (N + 1) x (nI k) z (mc M p (some y)) J = K x (nI (k + 1)) (mc M p (some y)) J := by
  rw [F_Mo_set_98, m_badS ho hb, bd_s, if_pos (by decide)]
  unfold F_Mo_set_150
  rw [nI_io1, nI_add]
theorem m_set98 {K : Int32 → Int32 → pm_II → pm_JJ → Option (Int32 × pm_II × pm_JJ)} {k : Nat} (hp : p ≤ n) (hb : Mb b n M) (h0 : ¬ wl b n p = 0) : ∀ (d j N : Nat), j + d = wl b n p → d + 2 ≤ N → F_Mo_set_98 u K N x (nI k) (nI p) (mc M (p + j) none) J = K x (nI (k + 1)) (mc M (p + wl b n p) (wE b n p)) J := by
  intro d
  have hn := hb.2.2
  obtain ⟨hl1, hl2⟩ := wl_le (b := b) (n := n) (p := p)
  induction d with
  | zero =>
    intro j N hj hN
    obtain ⟨N, rfl⟩ : ∃ z, N = z + 2 := ⟨N - 2, by omega⟩
    obtain rfl : j = wl b n p := by omega
    have ho : Om n (p + wl b n p) none := (Ok_0 (by omega)).m
    rw [F_Mo_set_98, m_bad0 ho hb, bd_s, if_neg (by decide), m_here ho hb, bd_s, m_isSmall, bd_s, b2i_if0]
    unfold wE
    rw [if_neg h0]
    by_cases c : wl b n p = 12 ∧ p + 12 < n ∧ (97 ≤ b (p + 12) ∧ b (p + 12) ≤ 122)
    · have hh : decide (97 ≤ h_re b n (p + wl b n p) ∧ h_re b n (p + wl b n p) ≤ 122) = true := by
        rw [decide_eq_true_eq]
        unfold h_re
        rw [c.1, if_pos c.2.1]
        exact c.2.2
      rw [if_pos c, hh, cond_true]
      have h4 : (mc M (p + wl b n p) none) 120 4 = nI (p + wl b n p) := rfl
      rw [h4, pk_sub (by omega), if_neg (show ¬ ¬ nI (p + wl b n p - p) = 12 by rw [show p + wl b n p - p = 12 by omega]; decide), m_fail0 ho hb, bd_s, m_set98S (ho.s (by omega)) hb, c.1]
    · have hh : decide (97 ≤ h_re b n (p + wl b n p) ∧ h_re b n (p + wl b n p) ≤ 122) = false := by
        rw [decide_eq_false_iff_not]
        unfold h_re
        intro z
        by_cases d1 : p + wl b n p < n
        · rw [if_pos d1] at z
          by_cases d2 : wl b n p < 12
          · exact wl_end d2 d1 z
          · have d3 : wl b n p = 12 := by omega
            rw [d3] at z d1
            exact c ⟨d3, d1, z⟩
        · rw [if_neg d1] at z
          exact absurd z (by decide)
      rw [if_neg c, hh, cond_false]
      unfold F_Mo_set_150
      rw [nI_io1, nI_add]
  | succ d ih =>
    intro j N hj hN
    obtain ⟨N, rfl⟩ : ∃ z, N = z + 1 := ⟨N - 1, by omega⟩
    have ho : Om n (p + j) none := (Ok_0 (by omega)).m
    have hl := wl_let (b := b) (n := n) (p := p) (j := j) (by omega)
    rw [F_Mo_set_98, m_bad0 ho hb, bd_s, if_neg (by decide), m_here ho hb, bd_s, m_isSmall, bd_s, b2i_if0]
    have hh : decide (97 ≤ h_re b n (p + j) ∧ h_re b n (p + j) ≤ 122) = true := by
      rw [decide_eq_true_eq]
      unfold h_re
      rw [if_pos (by omega)]
      exact hl
    rw [hh, cond_true]
    have h4 : (mc M (p + j) none) 120 4 = nI (p + j) := rfl
    rw [h4, pk_sub (by omega), if_pos (by rw [show (12 : Int32) = nI 12 from rfl, nI_eq (by omega) (by omega)]; omega), nI_1, M2_a]
    exact ih (j + 1) N (by omega) (by omega)
theorem m_set71 {K : Int32 → Int32 → pm_II → pm_JJ → Option (Int32 × pm_II × pm_JJ)} {k p0 y : Nat} (hu : 20 ≤ u) (hp : p0 + y ≤ n) (hb : Mb b n M) : F_Mo_set_71 u K x (nI k) (nI p0) (nI y) (mc M p0 none) J = K x (nI (k + 1)) (mc M (p0 + y + wl b n (p0 + y)) (wE b n (p0 + y))) J := by
  unfold F_Mo_set_71
  have ho : Om n (p0 + y) none := (Ok_0 hp).m
  have hn := hb.2.2
  rw [nI_add, M2_a, m_here ho hb, bd_s, m_isSmall, bd_s, b2i_ifn]
  obtain ⟨hl1, hl2⟩ := wl_le (b := b) (n := n) (p := p0 + y)
  by_cases c : wl b n (p0 + y) = 0
  · have hh : decide (97 ≤ h_re b n (p0 + y) ∧ h_re b n (p0 + y) ≤ 122) = false := by
      rw [decide_eq_false_iff_not]
      unfold h_re
      intro z
      by_cases d1 : p0 + y < n
      · rw [if_pos d1] at z
        have := wl_end (b := b) (n := n) (p := p0 + y) (by omega) (by omega)
        rw [c, Nat.add_zero] at this
        exact this z
      · rw [if_neg d1] at z
        exact absurd z (by decide)
    rw [hh, cond_false]
    have h4 : (mc M (p0 + y) none) 120 4 = nI (p0 + y) := rfl
    obtain ⟨N, hN⟩ : ∃ z, u = z + 1 := ⟨u - 1, by omega⟩
    rw [h4, m_fail0 ho hb, bd_s]
    have e : F_Mo_set_98 u K u x (nI k) (nI (p0 + y)) (mc M (p0 + y) (some (p0 + y))) J = F_Mo_set_98 u K (N + 1) x (nI k) (nI (p0 + y)) (mc M (p0 + y) (some (p0 + y))) J := by rw [← hN]
    rw [e, m_set98S (ho.s (by omega)) hb]
    unfold wE
    rw [if_pos c, c]
    rfl
  · have hl := wl_let (b := b) (n := n) (p := p0 + y) (j := 0) (by omega)
    have hh : decide (97 ≤ h_re b n (p0 + y) ∧ h_re b n (p0 + y) ≤ 122) = true := by
      rw [decide_eq_true_eq]
      unfold h_re
      rw [if_pos (by omega)]
      exact hl
    rw [hh, cond_true]
    have := m_set98 (u := u) (J := J) (x := x) (K := K) (k := k) hp hb c (wl b n (p0 + y)) 0 u (by omega) (by omega)
    rw [Nat.add_zero] at this
    exact this
/-- so many words, read up to a place -/
def TP (b : Nat → Int32) (w : Nat) (fr ln : Nat → Nat) (p : Nat) : Prop := (1 ≤ w ∧ w ≤ 12 ∧ fr 0 = 0) ∧ (∀ v, v < w → 1 ≤ ln v ∧ ln v ≤ 12 ∧ ∀ i, i < ln v → ltr (b (fr v + i))) ∧ (∀ v, v + 1 < w → fr (v + 1) = fr v + ln v + 1 ∧ b (fr v + ln v) = 32) ∧ fr (w - 1) + ln (w - 1) = p
def Txt (b : Nat → Int32) (n W : Nat) (fr ln : Nat → Nat) : Prop := ∃ p, TP b W fr ln p ∧ n = p + 1 ∧ b p = 10
def kW (c k : Nat) : Prop := c = 52 ∨ c = 53 ∨ (c = 48 ∧ k = 8)
def rwT (u : Nat) (K : pm_II → pm_JJ → Option (Unit × pm_II × pm_JJ)) (X : pm_II) (J : pm_JJ) : Option (Unit × pm_II × pm_JJ) := if 12 ≤ (X 48 8) then F_Ty_readWords_62 u X J else bd (F_Ta_takes u (32 : Int32) X J) fun r I2 J2 => if ¬ r = 0 then K I2 J2 else F_Ty_readWords_62 u I2 J2
theorem rw_62 {I : pm_II} {f : Nat} {e : Option Nat} (ho : Ok n p e) (hb : Tb b n I) : F_Ty_readWords_62 u (tc I p f e) J = some ((), tc I (q_exP b n p e 10) f (gE b n p e), J) := by
  unfold F_Ty_readWords_62
  rw [t_expect ho hb, bd_s, t_finish (Ok_ex ho) hb, bd_s]
  rfl
theorem m_156 {e : Option Nat} (ho : Om n p e) (hb : Mb b n M) : F_Mo_set_156 u x (mc M p e) J = F_Mo_set_188 u x (mc M (q_exP b n p e 10) (gE b n p e)) J := by
  unfold F_Mo_set_156
  rw [m_need (by decide) ho hb, bd_s, m_fi (Om_ex ho) hb]
  rfl
theorem gE_none (h : gE b n p none = none) : p < n ∧ b p = 10 ∧ n = p + 1 := by
  unfold gE at h
  by_cases c : q_tk b n p none 10 = true
  · have e1 : q_exP b n p none 10 = p + 1 := by unfold q_exP; rw [if_pos c]
    have e2 : q_exE b n p none 10 = none := by unfold q_exE; rw [if_pos c]
    rw [e1, e2] at h
    unfold q_tk at c
    have c := of_decide_eq_true c
    unfold q_fi at h
    by_cases d : p + 1 < n
    · rw [if_pos d] at h; cases h
    · exact ⟨c.2.1, c.2.2, by omega⟩
  · have e1 : q_exP b n p none 10 = p := by unfold q_exP; rw [if_neg c]
    have e2 : q_exE b n p none 10 = some p := by unfold q_exE; rw [if_neg c]; rfl
    rw [e1, e2, fi_some] at h
    cases h
theorem gE_bad (h : p < n → ¬ b p = 10) : gE b n p none = some p := by
  unfold gE
  have c : ¬ q_tk b n p none 10 = true := by
    unfold q_tk
    intro z
    have z := of_decide_eq_true z
    exact h z.2.1 z.2.2
  have e1 : q_exP b n p none 10 = p := by unfold q_exP; rw [if_neg c]
  have e2 : q_exE b n p none 10 = some p := by unfold q_exE; rw [if_neg c]; rfl
  rw [e1, e2, fi_some]
/-- class and model behind a word: alike, or the word is too long -/
def wRel (b : Nat → Int32) (n p : Nat) (e : Option Nat) (p2 : Nat) (e2 : Option Nat) : Prop := (e2 = e ∧ (e = none → p2 = p)) ∨ (e = none ∧ e2 = some p ∧ p < n ∧ ltr (b p))
theorem wRel_1 (hp : p ≤ n) : wRel b n (p + wl b n p) (if wl b n p = 0 then some p else none) (p + wl b n p) (wE b n p) := by
  unfold wE
  by_cases c : wl b n p = 0
  · rw [if_pos c, if_pos c]
    exact Or.inl ⟨rfl, fun z => by cases z⟩
  · rw [if_neg c, if_neg c]
    by_cases d : wl b n p = 12 ∧ p + 12 < n ∧ (97 ≤ b (p + 12) ∧ b (p + 12) ≤ 122)
    · rw [if_pos d, d.1]
      exact Or.inr ⟨rfl, rfl, d.2.1, d.2.2⟩
    · rw [if_neg d]
      exact Or.inl ⟨rfl, fun _ => rfl⟩
/-- the class reads a word -/
theorem rw_word {I : pm_II} {f w N : Nat} (hu : 1602 ≤ u) (hw : w < 12) (hp : p ≤ n) (hb : Tb b n I) (h8 : I 48 8 = nI w) : F_Ty_readWords_5 u (N + 1) (tc I p f none) J = rwT u (F_Ty_readWords_5 u N) (tc (pm_up (pm_up (pm_up I 52 w (nI p)) 53 w (nI (wl b n p))) 48 8 (nI (w + 1))) (p + wl b n p) p (if wl b n p = 0 then some p else none)) J := by
  rw [F_Ty_readWords_5]
  unfold F_Ta_place
  have h2 : (tc I p f none) 17 2 = nI p := rfl
  have h3 : (tc I p f none) 48 8 = nI w := h8
  have hb2 : Tb b n (pm_up I 52 w (nI p)) := hb.put (by decide) (by decide)
  rw [h2, bd_s, h3, vqT hw (by omega), nI_clamp (by omega), cond_true, T3_o (by decide)]
  have hl := t_letters (u := u) (J := J) (f := f) (most := 12) (od := false) hu (by omega) (by omega) (Ok_0 hp) hb2
  have e12 : (12 : Int32) = nI 12 := rfl
  have e0 : (0 : Int32) = b2i false := rfl
  rw [e12, e0, hl, bd_s, cond_true]
  have h4 : (tc (pm_up I 52 w (nI p)) (p + q_ll b n p none 12 false) p (if q_ll b n p none 12 false = 0 then q_bl none p else none)) 48 8 = nI w := h8
  rw [h4, nI_1]
  unfold rwT wl
  rw [T3_o (by decide), T3_o (by decide)]
  rfl
theorem rw_loop (hu : 2000 ≤ u) : ∀ (m w p f : Nat) (I : pm_II) (fr ln : Nat → Nat) (e : Option Nat) (N N2 : Nat), w + m = 12 → 1 ≤ w → m < N → m + 3 ≤ N2 → Tb b n I → I 48 8 = nI w → (∀ v, v < w → I 52 v = nI (fr v) ∧ I 53 v = nI (ln v)) → Ok n p e → (e = none → TP b w fr ln p) → ∃ I2 pp ff ee W fr2 ln2, rwT u (F_Ty_readWords_5 u N) (tc I p f e) J = some ((), tc I2 pp ff ee, J) ∧ Ok n pp ee ∧ On kW I I2 ∧ (ee = none → I2 48 8 = nI W ∧ (∀ v, v < W → I2 52 v = nI (fr2 v) ∧ I2 53 v = nI (ln2 v)) ∧ Txt b n W fr2 ln2) ∧ ∀ (M : pm_II) (p2 : Nat) (e2 : Option Nat), Mb b n M → Om n p2 e2 → wRel b n p e p2 e2 → ∃ p3, Om n p3 ee ∧ F_Mo_set_20 u N2 x (nI w) (mc M p2 e2) J = F_Mo_set_188 u x (mc M p3 ee) J := by
  intro m
  induction m with
  | zero =>
    intro w p f I fr ln e N N2 hw h1 hN hN2 hb h8 hr ho hT
    obtain ⟨N2, rfl⟩ : ∃ z, N2 = z + 2 := ⟨N2 - 2, by omega⟩
    have hn := hb.2.2
    have hX : (tc I p f e) 48 8 = nI w := h8
    refine ⟨I, q_exP b n p e 10, f, gE b n p e, w, fr, ln, ?_, ?_, On.refl _, fun he => ?_, fun M p2 e2 hM ho2 hR => ?_⟩
    · unfold rwT
      rw [hX, if_pos (by rw [show (12 : Int32) = nI 12 from rfl, nI_leI (by omega) (by omega)]; omega), rw_62 ho hb]
    · exact Ok_fi (Ok_ex ho)
    · refine ⟨h8, hr, ?_⟩
      cases e with
      | some y => rw [gE_some] at he; cases he
      | none =>
        obtain ⟨g1, g2, g3⟩ := gE_none he
        exact ⟨p, hT rfl, g3, g2⟩
    · have hOm : Om n (q_exP b n p2 e2 10) (gE b n p2 e2) := by
        have o1 := Om_ex (b := b) (c := 10) ho2
        refine ⟨o1.1, fun hh => ?_, fun y hy => ?_⟩
        · unfold gE q_fi at hh
          split at hh
          · cases h9 : q_exE b n p2 e2 10 <;> rw [h9] at hh <;> cases hh
          · exact o1.2.1 hh
        · unfold gE q_fi at hy
          split at hy
          · cases h9 : q_exE b n p2 e2 10 with
            | none => rw [h9] at hy; cases hy; have := o1.1; omega
            | some q => rw [h9] at hy; cases hy; exact o1.2.2 _ h9
          · exact o1.2.2 _ hy
      rw [F_Mo_set_20, m_bad ho2 hM, bd_s]
      rcases hR with ⟨rfl, hpp⟩ | ⟨rfl, rfl, hp, hl⟩
      · cases e2 with
        | some y =>
          rw [if_pos (by simp [b2i]), m_156 ho2 hM, gE_some, gE_some]
          refine ⟨_, ?_, rfl⟩
          rw [ex_some.1]
          exact ho2
        | none =>
          obtain rfl := hpp rfl
          rw [if_neg (by simp [b2i]), if_neg (by rw [i0_iff (by omega)]; omega), m_here ho2 hM, bd_s]
          by_cases c : h_re b n p2 = 32
          · rw [if_neg (by simpa using c)]
            unfold F_Mo_set_40
            have e12 : nI w = 12 := by rw [show (12 : Int32) = nI 12 from rfl]; congr 1
            rw [if_neg (by simpa using e12)]
            have h4 : (mc M p2 none) 120 4 = nI p2 := rfl
            have hg : gE b n p2 none = some p2 := gE_bad (fun hlt z => by
              unfold h_re at c
              rw [if_pos hlt, z] at c
              exact absurd c (by decide))
            rw [h4, m_fail0 ho2 hM, bd_s, F_Mo_set_20, m_badS (ho2.s ho.1) hM, bd_s, if_pos (by decide), m_156 (ho2.s ho.1) hM, gE_some, hg]
            refine ⟨_, ?_, rfl⟩
            rw [ex_some.1]
            exact ho2.s ho.1
          · rw [if_pos c, m_156 ho2 hM]
            exact ⟨_, hOm, rfl⟩
      · have hg : gE b n p none = some p := gE_bad (fun _ => (ltr_ne hl).2.1)
        rw [if_pos (by simp [b2i]), m_156 ho2 hM, gE_some, hg]
        refine ⟨_, ?_, rfl⟩
        rw [ex_some.1]
        exact ho2
  | succ m ih =>
    intro w p f I fr ln e N N2 hw h1 hN hN2 hb h8 hr ho hT
    obtain ⟨N, rfl⟩ : ∃ z, N = z + 1 := ⟨N - 1, by omega⟩
    obtain ⟨N2, rfl⟩ : ∃ z, N2 = z + 1 := ⟨N2 - 1, by omega⟩
    have hn := hb.2.2
    have hX : (tc I p f e) 48 8 = nI w := h8
    by_cases c : e = none ∧ p < n ∧ b p = 32
    · obtain ⟨rfl, c1, c2⟩ := c
      have tk : q_tk b n p none 32 = true := by simp [q_tk, c1, c2]
      have hh : h_re b n p = 32 := by unfold h_re; rw [if_pos c1]; exact c2
      have hb' : Tb b n (pm_up (pm_up (pm_up I 52 w (nI (p + 1))) 53 w (nI (wl b n (p + 1)))) 48 8 (nI (w + 1))) := ((hb.put (by decide) (by decide)).put (by decide) (by decide)).put (by decide) (by decide)
      have hlle := wl_le (b := b) (n := n) (p := p + 1)
      have hok : Ok n (p + 1 + wl b n (p + 1)) (if wl b n (p + 1) = 0 then some (p + 1) else none) := by
        refine ⟨by omega, fun y hy => ?_⟩
        split at hy
        · cases hy; omega
        · cases hy
      obtain ⟨I2, pp, ff, ee, W, fr2, ln2, i1, i2, i3, i4, i5⟩ := ih (w + 1) (p + 1 + wl b n (p + 1)) (p + 1) (pm_up (pm_up (pm_up I 52 w (nI (p + 1))) 53 w (nI (wl b n (p + 1)))) 48 8 (nI (w + 1))) (fun v => if v = w then p + 1 else fr v) (fun v => if v = w then wl b n (p + 1) else ln v) (if wl b n (p + 1) = 0 then some (p + 1) else none) N N2 (by omega) (by omega) (by omega) (by omega) hb' rfl (by
        intro v hv
        simp only [ur]
        by_cases q : v = w
        · subst q
          simp
        · simp [q]
          exact hr v (by omega)) hok (by
        intro he
        have hne : ¬ wl b n (p + 1) = 0 := by
          intro z
          rw [if_pos z] at he
          cases he
        obtain ⟨⟨t1, t2, t3⟩, t4, t5, t6⟩ := hT rfl
        refine ⟨⟨by omega, by omega, ?_⟩, fun v hv => ?_, fun v hv => ?_, ?_⟩
        · show (if 0 = w then p + 1 else fr 0) = 0
          rw [if_neg (by omega)]; exact t3
        · dsimp only
          by_cases q : v = w
          · rw [if_pos q, if_pos q]
            exact ⟨by omega, by omega, fun i hi => wl_let hi⟩
          · rw [if_neg q, if_neg q]
            exact t4 v (by omega)
        · dsimp only
          by_cases q : v + 1 = w
          · rw [if_pos q, if_neg (show ¬ v = w by omega), if_neg (show ¬ v = w by omega)]
            have : v = w - 1 := by omega
            rw [this, t6]
            exact ⟨rfl, c2⟩
          · rw [if_neg q, if_neg (show ¬ v = w by omega), if_neg (show ¬ v = w by omega)]
            exact t5 v (by omega)
        · dsimp only
          rw [if_pos (by omega), if_pos (by omega)])
      refine ⟨I2, pp, ff, ee, W, fr2, ln2, ?_, i2, On.trans ?_ i3, i4, fun M p2 e2 hM ho2 hR => ?_⟩
      · rw [← i1, ← rw_word (f := f) (by omega) (by omega) (by omega) hb h8]
        show rwT u _ _ J = _
        rw [rwT, hX, if_neg (by rw [show (12 : Int32) = nI 12 from rfl, nI_leI (by omega) (by omega)]; omega), t_takes ho hb, bd_s, tk, if_pos (by decide), if_pos rfl]
      · refine On.up (On.up (On.up (On.refl _) ?_) ?_) ?_ <;> (unfold kW; omega)
      · rcases hR with ⟨rfl, hpp⟩ | ⟨_, _, hp, hl⟩
        · obtain rfl := hpp rfl
          rw [F_Mo_set_20, m_bad0 ho2 hM, bd_s, if_neg (by decide), if_neg (by rw [i0_iff (by omega)]; omega), m_here ho2 hM, bd_s, if_neg (by simpa using hh)]
          unfold F_Mo_set_40
          rw [if_pos (by rw [show (12 : Int32) = nI 12 from rfl, nI_eq (by omega) (by omega)]; omega), if_pos (by rw [i0_iff (by omega)]; omega)]
          have h4 : (mc M p2 none) 120 4 = nI p2 := rfl
          rw [h4, nl_1, m_set71 (by omega) (by omega) hM]
          refine i5 M _ _ hM ?_ (wRel_1 (by omega))
          unfold wE
          split
          · exact ((Ok_0 (n := n) (by omega)).s (by omega)).m
          · split
            · exact ((Ok_0 (n := n) (by omega)).s (by omega)).m
            · exact (Ok_0 (by omega)).m
        · exact absurd c2 (ltr_ne hl).1
    · have tk : q_tk b n p e 32 = false := by
        unfold q_tk
        rw [decide_eq_false c]
      refine ⟨I, q_exP b n p e 10, f, gE b n p e, w, fr, ln, ?_, ?_, On.refl _, fun he => ?_, fun M p2 e2 hM ho2 hR => ?_⟩
      · unfold rwT
        rw [hX, if_neg (by rw [show (12 : Int32) = nI 12 from rfl, nI_leI (by omega) (by omega)]; omega), t_takes ho hb, bd_s, tk, if_neg (by decide), if_neg (by decide), rw_62 ho hb]
      · exact Ok_fi (Ok_ex ho)
      · refine ⟨h8, hr, ?_⟩
        cases e with
        | some y => rw [gE_some] at he; cases he
        | none =>
          obtain ⟨g1, g2, g3⟩ := gE_none he
          exact ⟨p, hT rfl, g3, g2⟩
      · rw [F_Mo_set_20, m_bad ho2 hM, bd_s]
        rcases hR with ⟨rfl, hpp⟩ | ⟨rfl, rfl, hp, hl⟩
        · cases e2 with
          | some y =>
            rw [if_pos (by simp [b2i]), m_156 ho2 hM, gE_some, gE_some]
            refine ⟨_, ?_, rfl⟩
            rw [ex_some.1]
            exact ho2
          | none =>
            obtain rfl := hpp rfl
            rw [if_neg (by simp [b2i]), if_neg (by rw [i0_iff (by omega)]; omega), m_here ho2 hM, bd_s]
            have hh : ¬ h_re b n p2 = 32 := by
              unfold h_re
              by_cases d : p2 < n
              · rw [if_pos d]; exact fun z => c ⟨rfl, d, z⟩
              · rw [if_neg d]; decide
            rw [if_pos hh, m_156 ho2 hM]
            exact ⟨_, (Ok_fi (Ok_ex ho)).m, rfl⟩
        · have hg : gE b n p none = some p := gE_bad (fun _ => (ltr_ne hl).2.1)
          rw [if_pos (by simp [b2i]), m_156 ho2 hM, gE_some, hg]
          refine ⟨_, ?_, rfl⟩
          rw [ex_some.1]
          exact ho2
end Words
