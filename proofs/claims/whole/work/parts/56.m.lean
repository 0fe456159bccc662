/-! ===== draw: the text, and the page ===== -/
def sumI (g : Nat → Int32) : Nat → Int32
  | 0 => 0
  | i + 1 => sumI g i + g i
theorem sumI_c {g h : Nat → Int32} : ∀ n, (∀ i, i < n → g i = h i) → sumI g n = sumI h n
  | 0, _ => rfl
  | n + 1, e => by
    rw [sumI, sumI, sumI_c n (fun i hi => e i (by omega)), e n (by omega)]
def cpt (g D : Nat → Int32) (o i : Nat) : Nat → Int32 := fun j => if o ≤ j ∧ j < o + i then D (j - o) else g j
theorem cpt_0 {g D : Nat → Int32} {o : Nat} : cpt g D o 0 = g := by
  funext j
  unfold cpt
  rw [if_neg (by omega)]
theorem cpt_s {g D : Nat → Int32} {o i : Nat} : (fun j => if j = o + i then D i else cpt g D o i j) = cpt g D o (i + 1) := by
  funext j
  unfold cpt
  by_cases e : j = o + i
  · subst e
    rw [if_pos rfl, if_pos (by omega)]
    congr 1; omega
  · rw [if_neg e]
    by_cases q : o ≤ j ∧ j < o + i
    · rw [if_pos q, if_pos (by omega)]
    · rw [if_neg q, if_neg (by omega)]
def zr (g : Nat → Int32) (i : Nat) : Nat → Int32 := fun j => if j < i then 0 else g j
theorem zr_0 {g : Nat → Int32} : zr g 0 = g := by
  funext j
  unfold zr
  rw [if_neg (by omega)]
theorem zr_s {g : Nat → Int32} {i : Nat} : (fun j => if j = i then 0 else zr g i j) = zr g (i + 1) := by
  funext j
  unfold zr
  by_cases e : j = i
  · subst e; rw [if_pos rfl, if_pos (by omega)]
  · rw [if_neg e]
    by_cases q : j < i
    · rw [if_pos q, if_pos (by omega)]
    · rw [if_neg q, if_neg (by omega)]
section Draw2
variable {u : Nat} {I M : pm_II} {J : pm_JJ} {b : Nat → Int32} {n p f : Nat} {e : Option Nat}
theorem c_t2 {x2 : Int32} : ∀ (d i N : Nat) (g : Nat → Int32), i + d = 64 → d < N → F_Pl_takeText_2 u N x2 (nI i) (sr I 38 (zr g i)) J = F_Pl_takeText_23 u u x2 0 (sr I 38 (zr g 64)) J := by
  intro d
  induction d with
  | zero =>
    intro i N g hi hN
    obtain ⟨N, rfl⟩ : ∃ z, N = z + 1 := ⟨N - 1, by omega⟩
    have : i = 64 := by omega
    subst this
    rw [F_Pl_takeText_2, if_pos (by decide)]
  | succ d ih =>
    intro i N g hi hN
    obtain ⟨N, rfl⟩ : ∃ z, N = z + 1 := ⟨N - 1, by omega⟩
    rw [F_Pl_takeText_2, nl_64, if_neg (by rw [nI_leI (by omega) (by omega)]; omega), vqT (show i < 64 by omega) (by omega), cond_true, nI_clamp (by omega), sr_up, zr_s, nI_io1, nI_add]
    exact ih (i + 1) N g (by omega) (by omega)
theorem m_d18 {x2 : Int32} : ∀ (d i N : Nat) (g : Nat → Int32), i + d = 64 → d < N → F_Mo_draw_18 u N x2 (nI i) (sr I 137 (zr g i)) J = F_Mo_draw_39 u u x2 0 (sr I 137 (zr g 64)) J := by
  intro d
  induction d with
  | zero =>
    intro i N g hi hN
    obtain ⟨N, rfl⟩ : ∃ z, N = z + 1 := ⟨N - 1, by omega⟩
    have : i = 64 := by omega
    subst this
    rw [F_Mo_draw_18, if_pos (by decide)]
  | succ d ih =>
    intro i N g hi hN
    obtain ⟨N, rfl⟩ : ∃ z, N = z + 1 := ⟨N - 1, by omega⟩
    rw [F_Mo_draw_18, nl_64, if_neg (by rw [nI_leI (by omega) (by omega)]; omega), vqT (show i < 64 by omega) (by omega), cond_true, nI_clamp (by omega), sr_up, zr_s, nI_io1, nI_add]
    exact ih (i + 1) N g (by omega) (by omega)
theorem c_t73 {pg : Nat} (hpg : pg < 32) : ∀ (d i N : Nat) (g : Nat → Int32), i + d = 64 → d < N → F_Pl_takeText_73 u N (nI pg) (sumI (I 38) i) (nI i) (sr I 37 (cpt g (I 38) (pg * 64) i)) J = some (sumI (I 38) 64, sr I 37 (cpt g (I 38) (pg * 64) 64), J) := by
  intro d
  induction d with
  | zero =>
    intro i N g hi hN
    obtain ⟨N, rfl⟩ : ∃ z, N = z + 1 := ⟨N - 1, by omega⟩
    have : i = 64 := by omega
    subst this
    rw [F_Pl_takeText_73, if_pos (by decide)]
  | succ d ih =>
    intro i N g hi hN
    obtain ⟨N, rfl⟩ : ∃ z, N = z + 1 := ⟨N - 1, by omega⟩
    rw [F_Pl_takeText_73, nl_64, if_neg (by rw [nI_leI (by omega) (by omega)]; omega), vqT (show i < 64 by omega) (by omega), pk_mul, nI_add, vqT (show pg * 64 + i < 2048 by omega) (by omega)]
    simp only [cond_true]
    rw [nI_clamp (by omega), nI_clamp (by omega), sr_ne (by omega), sr_up, cpt_s, nI_io1, nI_add]
    exact ih (i + 1) N g (by omega) (by omega)
theorem m_d331 {pg : Nat} (hpg : pg < 32) : ∀ (d i N : Nat) (g : Nat → Int32), i + d = 64 → d < N → F_Mo_draw_331 u N (nI pg) (sumI (I 137) i) (nI i) (sr I 136 (cpt g (I 137) (pg * 64) i)) J = some (sumI (I 137) 64, sr I 136 (cpt g (I 137) (pg * 64) 64), J) := by
  intro d
  induction d with
  | zero =>
    intro i N g hi hN
    obtain ⟨N, rfl⟩ : ∃ z, N = z + 1 := ⟨N - 1, by omega⟩
    have : i = 64 := by omega
    subst this
    rw [F_Mo_draw_331, if_pos (by decide)]
  | succ d ih =>
    intro i N g hi hN
    obtain ⟨N, rfl⟩ : ∃ z, N = z + 1 := ⟨N - 1, by omega⟩
    rw [F_Mo_draw_331, nl_64, if_neg (by rw [nI_leI (by omega) (by omega)]; omega), vqT (show i < 64 by omega) (by omega), pk_mul, nI_add, vqT (show 64 * pg + i < 2048 by omega) (by omega)]
    simp only [cond_true]
    rw [nI_clamp (by omega), nI_clamp (by omega), sr_ne (by omega), sr_up, Nat.mul_comm 64, cpt_s, nI_io1, nI_add]
    exact ih (i + 1) N g (by omega) (by omega)
theorem m_111S {K : Int32 → Int32 → pm_II → pm_JJ → Option (Int32 × pm_II × pm_JJ)} {pg k x3 : Int32} {x : Nat} (hu : 10 ≤ u) (ho : Om n p (some x)) (hM : Mb b n M) : F_Mo_draw_111 u K pg k x3 (mc M p (some x)) J = K pg k (mc M p (some x)) J := by
  unfold F_Mo_draw_111 F_Mo_draw_150 F_Mo_draw_185 F_Mo_draw_218
  simp only [m_nnS hu ho hM, m_needS (show ¬ (32 : Int32) = -1 by decide) ho hM, m_needS (show ¬ (10 : Int32) = -1 by decide) ho hM, m_toldS hu ho hM, m_badS ho hM, bd_s, if_neg (show ¬ (1 : Int32) = 0 by decide), if_pos (show ¬ (1 : Int32) = 0 by decide), ite_self]
theorem dw_step {k : Nat} (hu : 2000 ≤ u) (hb : Tb b n I) (hp : p ≤ n) (hk : k < 40) :
    (∃ g x p' f', x ≤ n ∧ p' ≤ n ∧ F_Pl_readLine u (tc I p f none) J = some ((), tc (sr I 38 g) p' f' (some x), J) ∧ ∀ M K (pg : Int32), Mb b n M → ∃ p2, p2 ≤ n + 1 ∧ F_Mo_draw_61 u K pg (nI k) (mc M p none) J = K pg (nI k) (mc M p2 (some x)) J) ∨
    (∃ g p' f', p' ≤ n ∧ F_Pl_readLine u (tc I p f none) J = some ((), tc (sr I 38 g) p' f' none, J) ∧ ∀ M K (pg : Int32), Mb b n M → (∀ i, i < 64 → I 38 i = M 137 i) → ∃ g', (∀ i, i < 64 → g i = g' i) ∧ F_Mo_draw_61 u K pg (nI k) (mc M p none) J = K pg (nI (k + 1)) (mc (sr M 137 g') p' none) J) := by
  have ho : Ok n p none := Ok_0 hp
  have hn := hb.2.2
  obtain ⟨w1, w2, w3⟩ := t_ei (u := u) (J := J) (f := f) (a1 := 7) (a2 := 8) (by omega) (by decide) (by decide) (by decide) (by decide) (by decide) (by decide) ho hb
  have c40 : ¬ (40 : Int32) ≤ nI k := by rw [nl_40, nI_leI (by omega) (by omega)]; omega
  have c41 : ¬ nI k = (40 : Int32) := by rw [nl_40, nI_eq (by omega) (by omega)]; omega
  unfold F_Pl_readLine
  cases hy : q_wd b n p (pm_txt 8) with
  | true =>
    have hx : q_wd b n p (pm_txt 7) = false := by
      cases hx : q_wd b n p (pm_txt 7) with
      | false => rfl
      | true => exact absurd (wd_ne hx hy (by decide)).1 (by decide)
    have hl := q_wd_le (by omega) hy
    have hl1 : (pm_txt 8).length = 4 := rfl
    rw [hl1] at hl
    rw [w1 hy, bd_s, if_neg (by decide), hl1]
    have mm : ∀ M K (pg : Int32), Mb b n M → F_Mo_draw_61 u K pg (nI k) (mc M p none) J = F_Mo_draw_111 u K pg (nI k) 0 (mc M (p + 4) none) J := by
      intro M K pg hM
      unfold F_Mo_draw_61 F_Mo_draw_82
      rw [if_neg c40, m_w0 (by omega) hp (by decide) hM hx, bd_s, if_pos rfl, if_neg c41, if_neg (by decide), m_w1 (by omega) hp (by decide) hM hy, bd_s, if_pos (by decide)]
      rfl
    rcases dw_line (u := u) (J := J) (f := p) hu hb hl with ⟨g, x, p', f', q1, q2, q3, q4⟩ | ⟨g, p', f', q1, q2, q3⟩
    · exact Or.inl ⟨g, x, p', f', q1, q2, q3, fun M K pg hM => by rw [mm M K pg hM]; exact q4 M K pg (nI k) hM⟩
    · refine Or.inr ⟨g, p', f', q1, q2, fun M K pg hM hR => ?_⟩
      rw [mm M K pg hM]
      have := q3 M K pg (nI k) hM hR
      rw [nI_io1, nI_add] at this
      exact this
  | false =>
    cases hx : q_wd b n p (pm_txt 7) with
    | true =>
      have hl := q_wd_le (by omega) hx
      have hl1 : (pm_txt 7).length = 3 := rfl
      rw [hl1] at hl
      rw [w2 hy hx, bd_s, if_pos (by decide), hl1]
      have mm : ∀ M K (pg : Int32), Mb b n M → F_Mo_draw_61 u K pg (nI k) (mc M p none) J = F_Mo_draw_111 u K pg (nI k) 1 (mc M (p + 3) none) J := by
        intro M K pg hM
        unfold F_Mo_draw_61 F_Mo_draw_82
        rw [if_neg c40, m_w1 (by omega) hp (by decide) hM hx, bd_s, if_neg (by decide), if_neg c41, if_pos (by decide)]
        rfl
      rcases dw_box (u := u) (J := J) (f := p) hu hb hl with ⟨g, x, p', f', q1, q2, q3, q4⟩ | ⟨g, p', f', q1, q2, q3⟩
      · exact Or.inl ⟨g, x, p', f', q1, q2, q3, fun M K pg hM => by rw [mm M K pg hM]; exact q4 M K pg (nI k) hM⟩
      · refine Or.inr ⟨g, p', f', q1, q2, fun M K pg hM hR => ?_⟩
        rw [mm M K pg hM]
        have := q3 M K pg (nI k) hM hR
        rw [nI_io1, nI_add] at this
        exact this
    | false =>
      obtain ⟨p', hp', w⟩ := w3 hy hx
      rw [w, bd_s, if_pos (by decide)]
      left
      have ho2 : Ok n p' (some p) := (Ok_0 hp').s (by omega)
      refine ⟨I 38, p, p', p', by omega, hp', ?_, fun M K pg hM => ⟨p, by omega, ?_⟩⟩
      · unfold F_Pl_readBox F_Pl_readBox_70 F_Pl_readLine_25
        simp only [t_nnS (show 10 ≤ u by omega) ho2 hb, t_irS ho2 hb, t_exS ho2 hb, bd_s, if_true, sr_id]
      · unfold F_Mo_draw_61 F_Mo_draw_82 F_Mo_draw_103
        have h4 : (mc M p none) 120 4 = nI p := rfl
        rw [if_neg c40, m_w0 (by omega) hp (by decide) hM hx, bd_s, if_pos rfl, if_neg c41, if_neg (by decide), m_w0 (by omega) hp (by decide) hM hy, bd_s, if_neg (by decide), h4, m_fail0 ho.m hM, bd_s, m_111S (by omega) (ho.m.s hp) hM]
theorem m_39h {k N : Nat} {pg : Int32} (hk : k < 100) (hp : p ≤ n) (hM : Mb b n M) (h : k = 0 ∨ p < n) : F_Mo_draw_39 u (N + 1) pg (nI k) (mc M p none) J = F_Mo_draw_61 u (F_Mo_draw_39 u N) pg (nI k) (mc M p none) J := by
  have ho : Ok n p none := Ok_0 hp
  have hn := hM.2.2
  have h3 : (mc M p none) 120 3 = nI n := hM.2.1
  have h4 : (mc M p none) 120 4 = nI p := rfl
  rw [F_Mo_draw_39, m_bad0 ho.m hM, bd_s, if_neg (by decide), h3, h4]
  by_cases c : p < n
  · rw [if_pos (by rw [nI_ltI (by omega) (by omega)]; exact c)]
  · rw [if_neg (by rw [nI_ltI (by omega) (by omega)]; exact c), if_neg (by rw [i0_iff (by omega)]; omega)]
theorem m_39e {k N : Nat} {pg : Int32} (hk : k < 100) (hk0 : k ≠ 0) (hp : p = n) (hM : Mb b n M) : F_Mo_draw_39 u (N + 1) pg (nI k) (mc M p none) J = F_Mo_draw_310 u pg (mc M p none) J := by
  have ho : Ok n p none := Ok_0 (by omega)
  have hn := hM.2.2
  have h3 : (mc M p none) 120 3 = nI n := hM.2.1
  have h4 : (mc M p none) 120 4 = nI p := rfl
  rw [F_Mo_draw_39, m_bad0 ho.m hM, bd_s, if_neg (by decide), h3, h4, if_neg (by rw [nI_ltI (by omega) (by omega)]; omega), if_pos (by rw [i0_iff (by omega)]; omega)]
theorem m_39S {x N : Nat} {pg k : Int32} (ho : Om n p (some x)) (hM : Mb b n M) : F_Mo_draw_39 u (N + 1) pg k (mc M p (some x)) J = F_Mo_draw_310 u pg (mc M p (some x)) J := by
  rw [F_Mo_draw_39, m_badS ho hM, bd_s, if_pos (by decide)]
theorem dw_loop {pg : Int32} (hu : 2000 ≤ u) : ∀ (d k : Nat) (I : pm_II) (p f N N2 : Nat), k + (d + 1) = 40 → d < N → d + 3 < N2 → Tb b n I → p ≤ n → (k = 0 ∨ p < n) →
    ∃ g pp ff e0, Ok n pp e0 ∧ F_Pl_takeText_23 u N pg (nI k) (tc I p f none) J = F_Pl_takeText_44 u pg (tc (sr I 38 g) pp ff e0) J ∧ ∀ M, Mb b n M → (∀ i, i < 64 → I 38 i = M 137 i) → ∃ g' p3, Om n p3 (q_fi n pp e0) ∧ F_Mo_draw_39 u N2 pg (nI k) (mc M p none) J = F_Mo_draw_310 u pg (mc (sr M 137 g') p3 (q_fi n pp e0)) J ∧ (q_fi n pp e0 = none → ∀ i, i < 64 → g i = g' i) := by
  intro d
  induction d with
  | zero =>
    intro k I p f N N2 hk hN hN2 hb hp hor
    obtain ⟨N, rfl⟩ : ∃ z, N = z + 1 := ⟨N - 1, by omega⟩
    obtain ⟨N2, rfl⟩ : ∃ z, N2 = z + 3 := ⟨N2 - 3, by omega⟩
    have k39 : k = 39 := by omega
    subst k39
    rw [F_Pl_takeText_23]
    rcases dw_step (u := u) (J := J) (f := f) (k := 39) hu hb hp (by omega) with ⟨g, x, p', f', q1, q2, q3, q4⟩ | ⟨g, p', f', q1, q2, q3⟩
    · rw [q3, bd_s, if_pos (by decide)]
      have ho : Ok n p' (some x) := (Ok_0 q2).s q1
      refine ⟨g, p', f', some x, ho, rfl, fun M hM hR => ?_⟩
      obtain ⟨p2, z1, z2⟩ := q4 M (F_Mo_draw_39 u (N2 + 2)) pg hM
      have hoS : Om n p2 (some x) := ⟨z1, (fun z => by cases z), fun y hy => by cases hy; exact q1⟩
      refine ⟨M 137, p2, by rw [fi_some]; exact hoS, ?_, fun z => by rw [fi_some] at z; cases z⟩
      rw [m_39h (by omega) hp hM hor, z2, m_39S hoS hM, fi_some, sr_id]
    · rw [q2, bd_s, if_pos (by decide)]
      have ho : Ok n p' none := Ok_0 q1
      refine ⟨g, p', f', none, ho, rfl, fun M hM hR => ?_⟩
      obtain ⟨g', z1, z2⟩ := q3 M (F_Mo_draw_39 u (N2 + 2)) pg hM hR
      have hM2 : Mb b n (sr M 137 g') := hM.sr (by omega) (by omega)
      refine ⟨g', p', (Ok_fi ho).m, ?_, fun _ => z1⟩
      rw [m_39h (by omega) hp hM hor, z2]
      by_cases c : p' = n
      · rw [m_39e (by omega) (by omega) c hM2]
        unfold q_fi
        rw [if_neg (by omega)]
      · rw [m_39h (by omega) q1 hM2 (Or.inr (by omega))]
        have e1 : q_fi n p' none = some p' := by unfold q_fi; rw [if_pos (by omega)]; rfl
        unfold F_Mo_draw_61 F_Mo_draw_82 F_Mo_draw_103
        have h4 : (mc (sr M 137 g') p' none) 120 4 = nI p' := rfl
        have hoS : Om n p' (some p') := ho.m.s q1
        rw [if_pos (by decide), if_pos (by decide), h4, m_fail0 ho.m hM2, bd_s, m_111S (by omega) hoS hM2, m_39S hoS hM2, e1]
  | succ d ih =>
    intro k I p f N N2 hk hN hN2 hb hp hor
    obtain ⟨N, rfl⟩ : ∃ z, N = z + 1 := ⟨N - 1, by omega⟩
    obtain ⟨N2, rfl⟩ : ∃ z, N2 = z + 2 := ⟨N2 - 2, by omega⟩
    have c40 : ¬ (40 : Int32) ≤ nI (k + 1) := by rw [nl_40, nI_leI (by omega) (by omega)]; omega
    rw [F_Pl_takeText_23]
    rcases dw_step (u := u) (J := J) (f := f) (k := k) hu hb hp (by omega) with ⟨g, x, p', f', q1, q2, q3, q4⟩ | ⟨g, p', f', q1, q2, q3⟩
    · rw [q3, bd_s, nI_io1, nI_add, if_neg c40]
      have ho : Ok n p' (some x) := (Ok_0 q2).s q1
      have hb2 : Tb b n (sr I 38 g) := hb.sr (by omega) (by omega)
      rw [t_hmS ho hb2, bd_s, if_neg (by decide)]
      refine ⟨g, p', f', some x, ho, rfl, fun M hM hR => ?_⟩
      obtain ⟨p2, z1, z2⟩ := q4 M (F_Mo_draw_39 u (N2 + 1)) pg hM
      have hoS : Om n p2 (some x) := ⟨z1, (fun z => by cases z), fun y hy => by cases hy; exact q1⟩
      refine ⟨M 137, p2, by rw [fi_some]; exact hoS, ?_, fun z => by rw [fi_some] at z; cases z⟩
      rw [m_39h (by omega) hp hM hor, z2, m_39S hoS hM, fi_some, sr_id]
    · rw [q2, bd_s, nI_io1, nI_add, if_neg c40]
      have ho : Ok n p' none := Ok_0 q1
      have hb2 : Tb b n (sr I 38 g) := hb.sr (by omega) (by omega)
      by_cases c : p' = n
      · rw [t_hm0 c hb2, bd_s, if_neg (by decide)]
        refine ⟨g, p', f', none, ho, rfl, fun M hM hR => ?_⟩
        obtain ⟨g', z1, z2⟩ := q3 M (F_Mo_draw_39 u (N2 + 1)) pg hM hR
        have hM2 : Mb b n (sr M 137 g') := hM.sr (by omega) (by omega)
        refine ⟨g', p', (Ok_fi ho).m, ?_, fun _ => z1⟩
        rw [m_39h (by omega) hp hM hor, z2, m_39e (by omega) (by omega) c hM2]
        unfold q_fi
        rw [if_neg (by omega)]
      · rw [t_hm1 (by omega) hb2, bd_s, if_pos (by decide)]
        obtain ⟨g2, pp, ff, e0, y1, y2, y3⟩ := ih (k + 1) (sr I 38 g) p' f' N (N2 + 1) (by omega) (by omega) (by omega) hb2 q1 (Or.inr (by omega))
        refine ⟨g2, pp, ff, e0, y1, by rw [y2, sr_sr], fun M hM hR => ?_⟩
        obtain ⟨g', z1, z2⟩ := q3 M (F_Mo_draw_39 u (N2 + 1)) pg hM hR
        have hM2 : Mb b n (sr M 137 g') := hM.sr (by omega) (by omega)
        obtain ⟨g3, p3, x1, x2, x3⟩ := y3 (sr M 137 g') hM2 (fun i hi => by rw [sr_at, sr_at]; exact z1 i hi)
        refine ⟨g3, p3, x1, ?_, x3⟩
        rw [m_39h (by omega) hp hM hor, z2, x2, sr_sr]
end Draw2
theorem st_draw {u : Nat} {I : pm_II} {J : pm_JJ} {x : Int32} (hu : 2000 ≤ u) (ht : Ptape I) (h3 : P3 I) : ∃ v I1 I2, F_Ph_draw u x I J = some (v, I1, J) ∧ F_Mo_draw u x I1 J = some (v, I2, J) ∧ Ptape I2 ∧ P3 I2 ∧ Fr 3 I I2 := by
  unfold F_Ph_draw F_Mo_draw
  have r1 : ∀ (A B : Option (Int32 × pm_II × pm_JJ)), (if x < 0 then A else if x < 32 then B else A) = cond (rgb x 0 31) B A := by
    intro A B
    rw [← rgb_if1]
    by_cases c : x < 0
    · rw [if_pos c, if_pos c]
    · obtain ⟨k, hk, rfl⟩ := nI_of c
      rw [if_neg c, if_neg c, nl_32, nl_31]
      by_cases d : k < 32
      · rw [if_pos (by rw [nI_ltI (by omega) (by omega)]; exact d), if_neg (by rw [nI_ltI (by omega) (by omega)]; omega)]
      · rw [if_neg (by rw [nI_ltI (by omega) (by omega)]; exact d), if_pos (by rw [nI_ltI (by omega) (by omega)]; omega)]
  rw [r1]
  simp only [m_isB, bd_s, b2i_ifn]
  cases hx : rgb x 0 31 with
  | false => exact ⟨_, I, I, rfl, rfl, ht, h3, Fr.refl _ _⟩
  | true =>
    obtain ⟨pg, _, hpg, rfl⟩ := rgb_n (lo := 0) (hi := 31) (by omega) (by omega) hx
    obtain ⟨b, n, hb, h2, h121, hbb⟩ := ht.bn
    have hn := hb.2.2
    simp only [cond_true]
    rw [t_open, bd_s]
    unfold F_Pl_takeText
    have e0 : F_Pl_takeText_2 u u (nI pg) 0 (tc I 0 0 none) J = F_Pl_takeText_23 u u (nI pg) (nI 0) (tc (sr I 38 (zr (I 38) 64)) 0 0 none) J := by
      have := c_t2 (u := u) (I := tc I 0 0 none) (J := J) (x2 := nI pg) 64 0 u (I 38) (by omega) (by omega)
      rw [zr_0, T3_sr (by omega), T3_sr (by omega), sr_id] at this
      exact this
    rw [e0]
    have hb2 : Tb b n (sr I 38 (zr (I 38) 64)) := hb.sr (by omega) (by omega)
    obtain ⟨g, pp, ff, e1, y1, y2, y3⟩ := dw_loop (u := u) (J := J) (pg := nI pg) hu 39 0 (sr I 38 (zr (I 38) 64)) 0 0 u u (by omega) (by omega) (by omega) hb2 (by omega) (Or.inl rfl)
    rw [y2, sr_sr]
    have hb3 : Tb b n (sr I 38 g) := hb.sr (by omega) (by omega)
    unfold F_Pl_takeText_44
    rw [t_finish y1 hb3, bd_s]
    have yf := Ok_fi y1
    generalize hee : q_fi n pp e1 = ee at *
    have lt32 : nI pg < (32 : Int32) := by rw [nl_32, nI_ltI (by omega) (by omega)]; omega
    -- the model from a heap that the class has left
    have mdl : ∀ X : pm_II, X 120 2 = nI n → (∀ j, X 121 j = I 121 j) → ∃ g' p3, Om n p3 ee ∧ Mb b n (sr (TK X n) 137 g') ∧ (bd (F_Mo_take u X J) fun _ I13 J13 => F_Mo_draw_18 u u (nI pg) (0 : Int32) I13 J13) = F_Mo_draw_310 u (nI pg) (mc (sr (TK X n) 137 g') p3 ee) J ∧ (ee = none → ∀ i, i < 64 → g i = g' i) := by
      intro X hX2 hX1
      have hM : Mb b n (TK X n) := TK_Mb hn (fun j hj => by rw [hX1]; exact h121 j hj)
      have hM2 : Mb b n (sr (TK X n) 137 (zr ((TK X n) 137) 64)) := hM.sr (by omega) (by omega)
      obtain ⟨g', p3, x1, x2, x3⟩ := y3 _ hM2 (fun i hi => by rw [sr_at, sr_at]; unfold zr; rw [if_pos hi, if_pos hi])
      refine ⟨g', p3, x1, hM.sr (by omega) (by omega), ?_, x3⟩
      rw [m_take (by omega) hn hX2, bd_s]
      have := m_d18 (u := u) (I := mc (TK X n) 0 none) (J := J) (x2 := nI pg) 64 0 u ((TK X n) 137) (by omega) (by omega)
      rw [zr_0, M2_sr (by omega), M2_sr (by omega), sr_id] at this
      refine this.trans ?_
      rw [sr_sr] at x2
      exact x2
    cases ee with
    | some y =>
      rw [t_irS yf hb3, bd_s, if_pos rfl, bd_s, t_close2 yf hb3, bd_s]
      obtain ⟨g', p3, x1, x2, x3, x4⟩ := mdl (tc (pm_up (sr I 38 g) 17 1 0) pp ff (some y)) h2 (fun j => rfl)
      unfold F_Mo_draw_310 at x3
      rw [m_ans x1 x2] at x3
      refine ⟨_, _, _, rfl, x3, Ptape.zero rfl rfl, ⟨fun i hi => h3.1 i hi, fun j hj => h3.2 j hj⟩, ?_⟩
      refine Fr_M2 (Fr.sr (Fr_TK (Fr_T3 (Fr.up (Fr.sr (Fr.refl _ _) ?_) ?_))) ?_)
      · exact fun k => Or.inr (own3 (by omega))
      · exact Or.inl rfl
      · exact fun k => Or.inr (own3 (by omega))
    | none =>
      rw [t_ir0 yf hb3, bd_s, if_neg (by decide), if_neg (nI_pos (by omega)), if_pos lt32]
      have e73 : F_Pl_takeText_73 u u (nI pg) 0 0 (tc (sr I 38 g) pp ff none) J = some (sumI g 64, tc (sr (sr I 38 g) 37 (cpt (I 37) g (pg * 64) 64)) pp ff none, J) := by
        have := c_t73 (u := u) (I := tc (sr I 38 g) pp ff none) (J := J) (pg := pg) (by omega) 64 0 u (I 37) (by omega) (by omega)
        rw [cpt_0, T3_sr (by omega), T3_sr (by omega), tc_r (by omega), sr_at] at this
        have e2 : sr (sr I 38 g) 37 (I 37) = sr I 38 g := by
          have : (sr I 38 g) 37 = I 37 := sr_ne (by omega)
          rw [← this, sr_id]
        rw [e2] at this
        exact this
      rw [e73, bd_s]
      have hb4 : Tb b n (sr (sr I 38 g) 37 (cpt (I 37) g (pg * 64) 64)) := hb3.sr (by omega) (by omega)
      rw [t_close2 yf hb4, bd_s]
      obtain ⟨g', p3, x1, x2, x3, x4⟩ := mdl (tc (pm_up (sr (sr I 38 g) 37 (cpt (I 37) g (pg * 64) 64)) 17 1 0) pp ff none) h2 (fun j => rfl)
      unfold F_Mo_draw_310 at x3
      rw [m_ans x1 x2] at x3
      generalize hX : TK (tc (pm_up (sr (sr I 38 g) 37 (cpt (I 37) g (pg * 64) 64)) 17 1 0) pp ff none) n = X at *
      have hX37 : X 37 = cpt (I 37) g (pg * 64) 64 := by rw [← hX]; rfl
      have hX136 : X 136 = I 136 := by rw [← hX]; rfl
      have e331 : F_Mo_draw_331 u u (nI pg) 0 0 (mc (sr X 137 g') p3 none) J = some (sumI g' 64, mc (sr (sr X 137 g') 136 (cpt (X 136) g' (pg * 64) 64)) p3 none, J) := by
        have := m_d331 (u := u) (I := mc (sr X 137 g') p3 none) (J := J) (pg := pg) (by omega) 64 0 u (X 136) (by omega) (by omega)
        rw [cpt_0, M2_sr (by omega), M2_sr (by omega), mc_r (by omega), sr_at] at this
        have e2 : sr (sr X 137 g') 136 (X 136) = sr X 137 g' := by
          have : (sr X 137 g') 136 = X 136 := sr_ne (by omega)
          rw [← this, sr_id]
        rw [e2] at this
        exact this
      have hgg := x4 rfl
      refine ⟨sumI g 64, _, mc (sr (sr X 137 g') 136 (cpt (X 136) g' (pg * 64) 64)) p3 none, rfl, ?_, Ptape.zero ?_ ?_, ⟨fun i hi => ?_, fun j hj => ?_⟩, ?_⟩
      · refine x3.trans ?_
        show F_Mo_draw_331 u u (nI pg) 0 0 (mc (sr X 137 g') p3 none) J = _
        rw [e331, sumI_c 64 hgg]
      · rw [mc_r (by omega), sr_ne (by omega), sr_ne (by omega), ← hX]; rfl
      · rw [mc_k (by omega) (by omega), sr_ne (by omega), sr_ne (by omega), ← hX]; rfl
      · rw [mc_r (by omega), sr_ne (by omega), sr_ne (by omega), mc_r (by omega), sr_at, hX37, hX136]
        unfold cpt
        by_cases q : pg * 64 ≤ i ∧ i < pg * 64 + 64
        · rw [if_pos q, if_pos q, hgg _ (by omega)]
        · rw [if_neg q, if_neg q]
          exact h3.1 i hi
      · rw [mc_r (by omega), sr_ne (by omega), sr_ne (by omega), ← hX]
        exact h3.2 j hj
      · have f1 : Fr 3 I X := by
          rw [← hX]
          refine Fr_TK (Fr_T3 (Fr.up (Fr.sr (Fr.sr (Fr.refl _ _) ?_) ?_) ?_))
          · exact fun k => Or.inr (own3 (by omega))
          · exact fun k => Or.inr (own3 (by omega))
          · exact Or.inl rfl
        refine Fr_M2 (Fr.sr (Fr.sr f1 ?_) ?_)
        · exact fun k => Or.inr (own3 (by omega))
        · exact fun k => Or.inr (own3 (by omega))
