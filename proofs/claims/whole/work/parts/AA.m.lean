/-! ===== rolls: a line of the text ===== -/
/-- the widths told before -/
def dup (wd : Nat → Nat) (V f : Nat) : Nat → Nat → Option Nat → Option Nat
  | 0, _, e => e
  | d + 1, k, e => dup wd V f d (k + 1) (if wd k = V then q_bl e f else e)
theorem dup_some {wd : Nat → Nat} {V f y : Nat} : ∀ d k, dup wd V f d k (some y) = some y
  | 0, _ => rfl
  | d + 1, k => by
    unfold dup
    have e : (if wd k = V then q_bl (some y) f else some y) = some y := by split <;> rfl
    rw [e]
    exact dup_some d (k + 1)
theorem dup_none {wd : Nat → Nat} {V f : Nat} : ∀ d k, dup wd V f d k none = none → ∀ j, k ≤ j → j < k + d → ¬ wd j = V
  | 0, _, _, j, h1, h2 => by omega
  | d + 1, k, h, j, h1, h2 => by
    unfold dup at h
    by_cases c : wd k = V
    · rw [if_pos c] at h
      have : q_bl none f = some f := rfl
      rw [this, dup_some] at h
      cases h
    · rw [if_neg c] at h
      by_cases q : j = k
      · rw [q]; exact c
      · exact dup_none d (k + 1) h j (by omega) (by omega)
theorem dup_le {wd : Nat → Nat} {V f n p : Nat} (hf : f ≤ n) : ∀ d k e, Ok n p e → Ok n p (dup wd V f d k e)
  | 0, _, _, h => h
  | d + 1, k, e, h => by
    unfold dup
    refine dup_le hf d (k + 1) _ ?_
    split
    · exact Ok_bl h hf
    · exact h
section RLine
variable {u : Nat} {J : pm_JJ} {b : Nat → Int32} {n : Nat}
theorem rl_22 {i p f fr V : Nat} {wd : Nat → Nat} {X : pm_II} (hu : 20 ≤ u) (hi : i < 4) (hf : f ≤ n) (hfr : fr ≤ 16) (hV : V < 2 ^ 30) (hwd : ∀ k, k < i → wd k < 2 ^ 30) (hb : Tb b n X) (h22 : ∀ k, k < i → X 22 k = nI (wd k)) (h22i : X 22 i = nI V) : ∀ (d k N : Nat) (e : Option Nat), k + d = i → d < N → Ok n p e → F_Ro_readLine_22 u N (nI i) (nI fr) (nI k) (tc X p f e) J = some ((), tc (pm_up X 23 i (nI (nnV b n p (dup wd V f d k e)))) (q_exP b n (nnP b n p (dup wd V f d k e)) (nnE b n p (dup wd V f d k e) 1 (nI (min 9 fr))) 10) (nnF b n p (dup wd V f d k e)) (q_exE b n (nnP b n p (dup wd V f d k e)) (nnE b n p (dup wd V f d k e) 1 (nI (min 9 fr))) 10), J) := by
  intro d
  induction d with
  | zero =>
    intro k N e hk hN ho
    obtain ⟨N, rfl⟩ : ∃ z, N = z + 1 := ⟨N - 1, by omega⟩
    obtain rfl : k = i := by omega
    have hb2 : Tb b n (pm_up X 23 k (nI (nnV b n p e))) := hb.put (by decide) (by decide)
    rw [F_Ro_readLine_22, if_pos (by rw [nI_leI (by omega) (by omega)]; omega), show (9 : Int32) = nI 9 from rfl, j_minN (by omega) (by omega), bd_s, t_nn (by omega) ho hb, bd_s, vqT hi (by omega), nI_clamp (by omega), cond_true, T3_o (by decide), t_expect (Ok_nn ho) hb2, bd_s]
    rfl
  | succ d ih =>
    intro k N e hk hN ho
    obtain ⟨N, rfl⟩ : ∃ z, N = z + 1 := ⟨N - 1, by omega⟩
    have e1 : (tc X p f e) 22 k = nI (wd k) := h22 k (by omega)
    have e2 : (tc X p f e) 22 i = nI V := h22i
    have hwk := hwd k (by omega)
    rw [F_Ro_readLine_22, if_neg (by rw [nI_leI (by omega) (by omega)]; omega), vqT (show k < 4 by omega) (by omega), vqT hi (by omega), nI_clamp (by omega), nI_clamp (by omega), e1, e2, cond_true, cond_true]
    unfold F_Ro_readLine_48
    rw [t_blameToken ho hb, bd_s, nI_io1, nI_add]
    by_cases c : wd k = V
    · rw [if_neg (by rw [c]; exact fun z => z rfl), ih (k + 1) N _ (by omega) (by omega) (Ok_bl ho hf), show dup wd V f (d + 1) k e = dup wd V f d (k + 1) (q_bl e f) by rw [dup, if_pos c]]
    · rw [if_pos (by rw [nI_eq (by omega) (by omega)]; exact c), ih (k + 1) N _ (by omega) (by omega) ho, show dup wd V f (d + 1) k e = dup wd V f d (k + 1) e by rw [dup, if_neg c]]
/-- where a line's reading stands, and its numbers: keyword read or not -/
def kwP (b : Nat → Int32) (n p : Nat) : Option Nat := if q_wd b n p (pm_txt 4) = true then none else some p
/-- the class reads a line -/
theorem rl_line {i p f fr ro : Nat} {wd : Nat → Nat} {X : pm_II} (hu : 2000 ≤ u) (hi : i < 4) (hfr : fr ≤ 16) (hwd : ∀ k, k < i → wd k < 2 ^ 30) (hp : p ≤ n) (hb : Tb b n X) (h22 : ∀ k, k < i → X 22 k = nI (wd k)) : ∃ p1, Ok n p1 (kwP b n p) ∧ (kwP b n p = none → p1 = p + 3) ∧ F_Ro_readLine u (nI i) (nI ro) (nI fr) (tc X p f none) J = some ((), tc (pm_up (pm_up X 22 i (nI (nnV b n p1 (kwP b n p)))) 23 i (nI (nnV b n (nnP b n p1 (kwP b n p)) (dup wd (nnV b n p1 (kwP b n p)) (nnF b n p1 (kwP b n p)) i 0 (nnE b n p1 (kwP b n p) 10 (nI ro)))))) (q_exP b n (nnP b n (nnP b n p1 (kwP b n p)) (dup wd (nnV b n p1 (kwP b n p)) (nnF b n p1 (kwP b n p)) i 0 (nnE b n p1 (kwP b n p) 10 (nI ro)))) (nnE b n (nnP b n p1 (kwP b n p)) (dup wd (nnV b n p1 (kwP b n p)) (nnF b n p1 (kwP b n p)) i 0 (nnE b n p1 (kwP b n p) 10 (nI ro))) 1 (nI (min 9 fr))) 10) (nnF b n (nnP b n p1 (kwP b n p)) (dup wd (nnV b n p1 (kwP b n p)) (nnF b n p1 (kwP b n p)) i 0 (nnE b n p1 (kwP b n p) 10 (nI ro)))) (q_exE b n (nnP b n (nnP b n p1 (kwP b n p)) (dup wd (nnV b n p1 (kwP b n p)) (nnF b n p1 (kwP b n p)) i 0 (nnE b n p1 (kwP b n p) 10 (nI ro)))) (nnE b n (nnP b n p1 (kwP b n p)) (dup wd (nnV b n p1 (kwP b n p)) (nnF b n p1 (kwP b n p)) i 0 (nnE b n p1 (kwP b n p) 10 (nI ro))) 1 (nI (min 9 fr))) 10), J) := by
  have hkw : ∃ p1 f1, Ok n p1 (kwP b n p) ∧ (kwP b n p = none → p1 = p + 3) ∧ F_Ta_readKeyword u 4 (tc X p f none) J = some ((), tc X p1 f1 (kwP b n p), J) := by
    unfold kwP
    cases hw : q_wd b n p (pm_txt 4) with
    | true =>
      have hl := q_wd_le hp hw
      refine ⟨p + 3, p, Ok_0 (by have : (pm_txt 4).length = 3 := rfl; omega), fun _ => rfl, ?_⟩
      have := t_kw1 (u := u) (I := X) (J := J) (f := f) (a := 4) (by omega) (by decide) (by decide) (by decide) (Ok_0 hp) hb hw
      exact this
    | false =>
      obtain ⟨p', h1, h2⟩ := t_kw0 (u := u) (I := X) (J := J) (f := f) (a := 4) (by omega) (by decide) (by decide) (by decide) (Ok_0 hp) hb hw
      exact ⟨p', p, (Ok_0 h1).s hp, (fun z => by cases z), h2⟩
  obtain ⟨p1, f1, ho, hp3, hk⟩ := hkw
  refine ⟨p1, ho, hp3, ?_⟩
  unfold F_Ro_readLine
  have hb2 : Tb b n (pm_up X 22 i (nI (nnV b n p1 (kwP b n p)))) := hb.put (by decide) (by decide)
  have hV : nnV b n p1 (kwP b n p) < 1000000 := nnV_lt
  rw [hk, bd_s, show (10 : Int32) = nI 10 from rfl, t_nn (by omega) ho hb, bd_s, vqT hi (by omega), nI_clamp (by omega), cond_true, T3_o (by decide)]
  have := rl_22 (u := u) (J := J) (i := i) (f := nnF b n p1 (kwP b n p)) (fr := fr) (V := nnV b n p1 (kwP b n p)) (wd := wd) (X := pm_up X 22 i (nI (nnV b n p1 (kwP b n p)))) (by omega) hi (nnF_le ho) hfr (by omega) hwd hb2 (fun k hk => by rw [ur, if_neg (by omega)]; exact h22 k hk) (by rw [ur, if_pos ⟨rfl, rfl⟩]) i 0 u (nnE b n p1 (kwP b n p) (nI 10) (nI ro)) (by omega) (by omega) (Ok_nn ho)
  exact this
/-- the model's two looks at the second number -/
theorem nn_16 {p al : Nat} {e : Option Nat} (h16 : al ≤ 16) (hp : q_nmE b n p e 1 9 = none) : (if al + q_nmV b n p e ≤ 16 then (none : Option Nat) else some p) = q_nmE b n p e 1 (nI (min 9 (16 - al))) := by
  obtain ⟨he, h1, h2⟩ := q_nmE_ok hp
  subst he
  have h3 : q_nmV b n p none ≤ 9 := by
    have := q_nmV_lt (b := b) (n := n) (p := p) (e := none)
    rw [show (9 : Int32) = nI 9 from rfl, nI_leI (by omega) (by omega)] at h2
    exact h2
  unfold q_nmE at hp ⊢
  dsimp only at hp ⊢
  split at hp
  · cases hp
  · rename_i c1
    rw [if_neg c1]
    split at hp
    · cases hp
    · rename_i c2
      rw [if_neg c2]
      by_cases c : al + q_nmV b n p none ≤ 16
      · rw [if_pos c, if_pos ⟨h1, by rw [nI_leI (by omega) (by omega)]; omega⟩]
      · rw [if_neg c, if_neg (fun z => by
          have := z.2
          rw [nI_leI (by omega) (by omega)] at this
          omega)]
theorem nn_16s {p al y : Nat} {e : Option Nat} (hp : q_nmE b n p e 1 9 = some y) : q_nmE b n p e 1 (nI (min 9 (16 - al))) = some y := by
  cases e with
  | some x => exact hp
  | none =>
    unfold q_nmE at hp ⊢
    dsimp only at hp ⊢
    split at hp
    · rename_i c1
      rw [if_pos c1]; exact hp
    · rename_i c1
      rw [if_neg c1]
      split at hp
      · rename_i c2
        rw [if_pos c2]; exact hp
      · rename_i c2
        rw [if_neg c2]
        split at hp
        · cases hp
        · rename_i c3
          rw [if_neg (fun z => c3 ⟨z.1, by
            have h1 := q_nmV_lt (b := b) (n := n) (p := p) (e := none)
            have := z.2
            rw [nI_leI (by omega) (by omega)] at this
            rw [show (9 : Int32) = nI 9 from rfl, nI_leI (by omega) (by omega)]
            omega⟩)]
          exact hp
theorem m_l206 {K52 : Int32 → Int32 → Int32 → Int32 → pm_II → pm_JJ → Option (Int32 × pm_II × pm_JJ)} {x1 x2 x4 x6 x7 : Int32} {i p : Nat} {e : Option Nat} {M : pm_II} (hi : i < 4) (ho : Om n p e) (hb : Mb b n M) : F_Mo_cut_206 u K52 x1 x2 (nI i) x4 x6 x7 (mc M p e) J = if q_exE b n p e 10 = none then K52 x1 x2 (nI (i + 1)) x4 (mc (pm_up (pm_up M 125 i x6) 126 i x7) (q_exP b n p e 10) (q_exE b n p e 10)) J else K52 x1 x2 (nI i) x4 (mc M (q_exP b n p e 10) (q_exE b n p e 10)) J := by
  unfold F_Mo_cut_206
  rw [m_need (by decide) ho hb, bd_s, m_bad (Om_ex ho) hb, bd_s]
  by_cases c : q_exE b n p e 10 = none
  · rw [if_pos c, c, if_pos (by simp [b2i]), vqT hi (by omega), nI_clamp (by omega), nI_io1, nI_add, M2_o (by decide), M2_o (by decide)]
    rfl
  · rw [if_neg c, if_neg]
    rw [b2i_0]
    simpa using c
theorem m_l158 {K52 : Int32 → Int32 → Int32 → Int32 → pm_II → pm_JJ → Option (Int32 × pm_II × pm_JJ)} {x1 x2 x6 : Int32} {i p al : Nat} {e : Option Nat} {M : pm_II} (hu : 20 ≤ u) (hi : i < 4) (h16 : al ≤ 16) (ho : Om n p e) (hb : Mb b n M) : F_Mo_cut_158 u K52 x1 x2 (nI i) (nI al) x6 (mc M p e) J = F_Mo_cut_206 u K52 x1 x2 (nI i) (nI (al + nnV b n p e)) x6 (nI (nnV b n p e)) (mc M (nnP b n p e) (nnE b n p e 1 (nI (min 9 (16 - al))))) J := by
  unfold F_Mo_cut_158
  have hV : nnV b n p e < 1000000 := nnV_lt
  rw [m_need (by decide) ho hb, bd_s, m_told (by omega) (Om_ex ho) hb, bd_s, m_bad (Om_nm (Om_ex ho)) hb, bd_s]
  have h4 : (mc M (q_exP b n p e 32) (q_exE b n p e 32)) 120 4 = nI (q_exP b n p e 32) := rfl
  rw [h4]
  cases hE : q_nmE b n (q_exP b n p e 32) (q_exE b n p e 32) 1 9 with
  | some y =>
    rw [if_pos (by simp [b2i]), nI_add]
    have := nn_16s (al := al) hE
    unfold nnE nnP nnV
    rw [this]
  | none =>
    rw [if_neg (by simp [b2i]), nI_add]
    have h1 := nn_16 h16 hE
    unfold nnE nnP
    rw [← h1]
    have hoN : Om n (q_exP b n p e 32 + q_dd b n (q_exP b n p e 32) (q_exE b n p e 32)) none := by
      have := Om_nm (b := b) (lo := 1) (hi := 9) (Om_ex (b := b) (c := 32) ho)
      rw [hE] at this
      exact this
    have hV2 : q_nmV b n (q_exP b n p e 32) (q_exE b n p e 32) < 1000000 := q_nmV_lt
    by_cases c : al + q_nmV b n (q_exP b n p e 32) (q_exE b n p e 32) ≤ 16
    · rw [if_pos (by rw [show (16 : Int32) = nI 16 from rfl, nI_leI (by omega) (by omega)]; exact c), if_pos c]
      rfl
    · rw [if_neg (by rw [show (16 : Int32) = nI 16 from rfl, nI_leI (by omega) (by omega)]; exact c), if_neg c, m_fail0 hoN hb, bd_s]
      rfl
theorem m_l121 {K52 : Int32 → Int32 → Int32 → Int32 → pm_II → pm_JJ → Option (Int32 × pm_II × pm_JJ)} {x1 x2 x4 : Int32} {i p f V : Nat} {wd : Nat → Nat} {M : pm_II} (hi : i < 4) (hf : f ≤ n) (hV : V < 2 ^ 30) (hwd : ∀ k, k < i → wd k < 2 ^ 30) (hb : Mb b n M) (h125 : ∀ k, k < i → M 125 k = nI (wd k)) : ∀ (d k N : Nat) (e : Option Nat), k + d = i → d < N → Om n p e → F_Mo_cut_121 u K52 N x1 x2 (nI i) x4 (nI f) (nI V) (nI k) (mc M p e) J = F_Mo_cut_158 u K52 x1 x2 (nI i) x4 (nI V) (mc M p (dup wd V f d k e)) J := by
  intro d
  induction d with
  | zero =>
    intro k N e hk hN ho
    obtain ⟨N, rfl⟩ : ∃ z, N = z + 1 := ⟨N - 1, by omega⟩
    obtain rfl : k = i := by omega
    rw [F_Mo_cut_121, if_pos (by rw [nI_leI (by omega) (by omega)]; omega)]
    rfl
  | succ d ih =>
    intro k N e hk hN ho
    obtain ⟨N, rfl⟩ : ∃ z, N = z + 1 := ⟨N - 1, by omega⟩
    have hwk := hwd k (by omega)
    rw [F_Mo_cut_121, if_neg (by rw [nI_leI (by omega) (by omega)]; omega)]
    cases e with
    | some y =>
      rw [m_badS ho hb, bd_s, if_pos (by decide), dup_some]
    | none =>
      have e1 : (mc M p none) 125 k = nI (wd k) := h125 k (by omega)
      rw [m_bad0 ho hb, bd_s, if_neg (by decide), vqT (show k < 4 by omega) (by omega), nI_clamp (by omega), e1, cond_true]
      unfold F_Mo_cut_152
      rw [m_fail0 ho hb, bd_s, nI_io1, nI_add]
      by_cases c : wd k = V
      · rw [if_neg (by rw [c]; exact fun z => z rfl), ih (k + 1) N _ (by omega) (by omega) (ho.s hf), show dup wd V f (d + 1) k none = dup wd V f d (k + 1) (some f) by rw [dup, if_pos c]; rfl]
      · rw [if_pos (by rw [nI_eq (by omega) (by omega)]; exact c), ih (k + 1) N _ (by omega) (by omega) ho]
        rw [show dup wd V f (d + 1) k none = dup wd V f d (k + 1) none by rw [dup, if_neg c]]
end RLine
