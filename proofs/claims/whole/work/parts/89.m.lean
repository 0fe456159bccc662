/-! ===== bundles: what a stage makes ===== -/
/-- bundles: how many, of each letter, sorts, sizes, firsts -/
abbrev BX : Type := Nat × (Nat → Int32) × (Nat → Int32) × (Nat → Int32) × (Nat → Int32)
def frb (bo : Nat → Int32) (p : Nat) : Bool := decide (bo p = -1)
def setN (w : Nat → Nat) (a : Nat) (v : Int32) : Nat → (Nat → Int32) → Nat → Int32
  | 0, bo, p => bo p
  | n + 1, bo, p => if p = w (a + n) then v else setN w a v n bo p
def up1 (r : Nat → Int32) (k : Nat) (v : Int32) : Nat → Int32 := fun j => if j = k then v else r j
def mkB (its : Nat) (w : Nat → Nat) (a n : Nat) (X : BX) : BX := (X.1 + 1, setN w a (nI X.1) n X.2.1, up1 X.2.2.1 X.1 (nI its), up1 X.2.2.2.1 X.1 (nI n), up1 X.2.2.2.2 X.1 (nI (w a)))
def grp (its most few : Nat) (w : Nat → Nat) : Nat → Nat → Nat → BX → BX
  | 0, _, _, X => X
  | f + 1, a, c, X => if few ≤ min most c then grp its most few w f (a + min most c) (c - min most c) (mkB its w a (min most c) X) else X
def stg (its most few : Nat) (w E : Nat → Nat) (R : Nat) : Nat → Nat → BX → BX
  | 0, _, X => X
  | f + 1, a, X => if a < R then stg its most few w E R f (E a) (grp its most few w (E a - a) a (E a - a) X) else X
def IsE (κ : Nat → Nat) (R a e : Nat) : Prop := a < e ∧ e ≤ R ∧ (∀ r, a ≤ r → r < e → κ r = κ a) ∧ (e = R ∨ ¬ κ e = κ a)
theorem IsE_u {κ : Nat → Nat} {R a e e2 : Nat} (h : IsE κ R a e) (h2 : IsE κ R a e2) : e = e2 := by
  obtain ⟨a1, a2, a3, a4⟩ := h
  obtain ⟨b1, b2, b3, b4⟩ := h2
  by_cases c : e < e2
  · exfalso
    rcases a4 with z | z
    · omega
    · exact z (b3 e (by omega) c)
  · by_cases d : e2 < e
    · exfalso
      rcases b4 with z | z
      · omega
      · exact z (a3 e2 (by omega) d)
    · omega
theorem IsE_ex {κ : Nat → Nat} {R a : Nat} : ∀ d e, e + d = R → a < e → (∀ r, a ≤ r → r < e → κ r = κ a) → ∃ e, IsE κ R a e := by
  intro d
  induction d with
  | zero => intro e he ha h; exact ⟨e, ha, by omega, h, Or.inl (by omega)⟩
  | succ d ih =>
    intro e he ha h
    by_cases c : κ e = κ a
    · refine ih (e + 1) (by omega) (by omega) (fun r h1 h2 => ?_)
      by_cases q : r = e
      · rw [q]; exact c
      · exact h r h1 (by omega)
    · exact ⟨e, ha, by omega, h, Or.inr c⟩
theorem chooseN {R : Nat} {P : Nat → Nat → Prop} (h : ∀ a, a < R → ∃ e, P a e) : ∃ f : Nat → Nat, ∀ a, a < R → P a (f a) :=
  ⟨fun a => Classical.epsilon (P a), fun a ha => Classical.epsilon_spec (h a ha)⟩
noncomputable def EE (κ : Nat → Nat) (R : Nat) (a : Nat) : Nat := Classical.epsilon (IsE κ R a)
theorem EE_h {κ : Nat → Nat} {R a : Nat} (h : a < R) : IsE κ R a (EE κ R a) := Classical.epsilon_spec (IsE_ex (R - (a + 1)) (a + 1) (by omega) (by omega) (fun r h1 h2 => by rw [show r = a by omega]))
/-- the place of the r-th free one -/
noncomputable def WW (G : Nat → Bool) (L r : Nat) : Nat := Classical.epsilon (fun q => q < L ∧ G q = true ∧ cnt G q = r)
theorem WW_ex {G : Nat → Bool} : ∀ L r, r < cnt G L → ∃ q, q < L ∧ G q = true ∧ cnt G q = r
  | 0, r, h => by exact absurd h (Nat.not_lt_zero _)
  | L + 1, r, h => by
    by_cases c : r < cnt G L
    · obtain ⟨q, h1, h2⟩ := WW_ex L r c
      exact ⟨q, by omega, h2⟩
    · rw [cnt] at h
      cases hg : G L with
      | false => rw [hg] at h; simp at h; omega
      | true =>
        rw [hg] at h
        have : (true).toNat = 1 := rfl
        exact ⟨L, by omega, hg, by omega⟩
theorem WW_h {G : Nat → Bool} {L r : Nat} (h : r < cnt G L) : WW G L r < L ∧ G (WW G L r) = true ∧ cnt G (WW G L r) = r := Classical.epsilon_spec (WW_ex L r h)
theorem cnt_up {G : Nat → Bool} : ∀ {p q : Nat}, p ≤ q → cnt G p ≤ cnt G q := by
  intro p q h
  obtain ⟨d, rfl⟩ : ∃ d, q = p + d := ⟨q - p, by omega⟩
  induction d with
  | zero => exact Nat.le_refl _
  | succ d ih =>
    rw [← Nat.add_assoc, cnt]
    have := ih (by omega)
    omega
theorem cnt_st {G : Nat → Bool} {p q : Nat} (h : p < q) (hp : G p = true) : cnt G p < cnt G q := by
  have h1 : cnt G (p + 1) ≤ cnt G q := cnt_up (by omega)
  rw [cnt, hp] at h1
  have : (true).toNat = 1 := rfl
  omega
theorem WW_q {G : Nat → Bool} {L q : Nat} (hq : q < L) (hg : G q = true) : WW G L (cnt G q) = q := by
  obtain ⟨h1, h2, h3⟩ := WW_h (G := G) (L := L) (r := cnt G q) (cnt_st hq hg)
  by_cases c : WW G L (cnt G q) < q
  · have := cnt_st c h2; omega
  · by_cases d : q < WW G L (cnt G q)
    · have := cnt_st d hg; omega
    · omega
theorem WW_inj {G : Nat → Bool} {L r t : Nat} (hr : r < cnt G L) (ht : t < cnt G L) (h : WW G L r = WW G L t) : r = t := by
  have h1 := (WW_h hr).2.2
  have h2 := (WW_h ht).2.2
  rw [h] at h1; omega
/-- what keeps the bundles few -/
def OB (L : Nat) (w : Nat → Nat) (R a : Nat) (X : BX) : Prop := X.1 + cnt (frb X.2.1) L ≤ L ∧ ∀ r, a ≤ r → r < R → X.2.1 (w r) = -1
theorem setN_o {w : Nat → Nat} {a p : Nat} {v : Int32} : ∀ {n : Nat} {bo : Nat → Int32}, (∀ r, a ≤ r → r < a + n → ¬ p = w r) → setN w a v n bo p = bo p
  | 0, _, _ => rfl
  | n + 1, bo, h => by
    rw [setN, if_neg (h (a + n) (by omega) (by omega))]
    exact setN_o (fun r h1 h2 => h r h1 (by omega))
theorem setN_i {w : Nat → Nat} {a r : Nat} {v : Int32} : ∀ {n : Nat} {bo : Nat → Int32}, a ≤ r → r < a + n → setN w a v n bo (w r) = v
  | 0, _, h1, h2 => by omega
  | n + 1, bo, h1, h2 => by
    rw [setN]
    by_cases c : r = a + n
    · rw [c, if_pos rfl]
    · by_cases q : w r = w (a + n)
      · rw [if_pos q]
      · rw [if_neg q]; exact setN_i h1 (by omega)
theorem OB_mk {L R a n its : Nat} {w : Nat → Nat} {X : BX} (hL : L ≤ 120) (hw : ∀ r, r < R → w r < L) (hi : ∀ r t, r < R → t < R → w r = w t → r = t) (h : OB L w R a X) (hn : 1 ≤ n) (ha : a + n ≤ R) : X.1 < L ∧ OB L w R (a + n) (mkB its w a n X) := by
  have hc : 0 < cnt (frb X.2.1) L := by
    have := cnt_st (G := frb X.2.1) (p := w a) (q := L) (hw a (by omega)) (by unfold frb; rw [h.2 a (by omega) (by omega)]; rfl)
    omega
  have hm : X.1 < L := by have := h.1; omega
  have hv : ¬ nI X.1 = -1 := nI_m1 (by omega)
  refine ⟨hm, ?_, fun r h1 h2 => ?_⟩
  · have : cnt (frb (setN w a (nI X.1) n X.2.1)) L < cnt (frb X.2.1) L := by
      refine cnt_str L (fun k hk hg => ?_) ⟨w a, hw a (by omega), ?_, ?_⟩
      · unfold frb at hg ⊢
        by_cases q : ∃ r, a ≤ r ∧ r < a + n ∧ k = w r
        · obtain ⟨r, q1, q2, q3⟩ := q
          rw [q3, setN_i q1 q2] at hg
          exact absurd (of_decide_eq_true hg) hv
        · rw [setN_o (fun r h1 h2 z => q ⟨r, h1, h2, z⟩)] at hg
          exact hg
      · unfold frb
        rw [setN_i (Nat.le_refl _) (by omega)]
        exact decide_eq_false hv
      · unfold frb
        rw [h.2 a (by omega) (by omega)]; rfl
    have h1 := h.1
    show X.1 + 1 + cnt (frb (setN w a (nI X.1) n X.2.1)) L ≤ L
    omega
  · show setN w a (nI X.1) n X.2.1 (w r) = -1
    rw [setN_o (fun t t1 t2 z => by have := hi r t h2 (by omega) z; omega)]
    exact h.2 r (by omega) h2
/-- the bundles in the rows of the class and of the model -/
def CX (L : Nat) (X : BX) (I : pm_II) : Prop := I 95 7 = nI X.1 ∧ (∀ p, p < L → I 96 p = X.2.1 p) ∧ ∀ k, k < X.1 → I 98 k = X.2.2.1 k ∧ I 99 k = X.2.2.2.1 k ∧ I 100 k = X.2.2.2.2 k
def MX (L : Nat) (X : BX) (I : pm_II) : Prop := I 120 77 = nI X.1 ∧ (∀ p, p < L → I 163 p = X.2.1 p) ∧ ∀ k, k < X.1 → I 165 k = X.2.2.1 k ∧ I 166 k = X.2.2.2.1 k ∧ I 167 k = X.2.2.2.2 k
def kBI (c k : Nat) : Prop := c = 96 ∨ c = 98 ∨ c = 99 ∨ c = 100 ∨ (c = 95 ∧ k = 7)
section BunC
variable {u : Nat} {J : pm_JJ} {L R its most few : Nat} {w : Nat → Nat}
theorem c_mk48 {m a n : Nat} (hL : L ≤ 120) (hR : R ≤ 120) (hw : ∀ r, r < R → w r < L) (ha : a + n ≤ R) : ∀ (d i N : Nat) (I : pm_II), i + d = n → d < N → (∀ r, r < R → I 97 r = nI (w r)) → I 95 7 = nI m → ∃ I2, F_Bu_makeBundle_48 u N (nI a) (nI n) (nI (a + i)) I J = some ((), I2, J) ∧ (∀ bo0 : Nat → Int32, (∀ p, p < L → I 96 p = setN w a (nI m) i bo0 p) → ∀ p, p < L → I2 96 p = setN w a (nI m) n bo0 p) ∧ I2 95 7 = nI (m + 1) ∧ On (fun c k => c = 96 ∨ (c = 95 ∧ k = 7)) I I2 := by
  intro d
  induction d with
  | zero =>
    intro i N I hi hN hr h7
    obtain ⟨N, rfl⟩ : ∃ z, N = z + 1 := ⟨N - 1, by omega⟩
    refine ⟨pm_up I 95 7 (nI (m + 1)), ?_, fun bo0 h => ?_, rfl, On.up (On.refl _) (by omega)⟩
    · rw [F_Bu_makeBundle_48, nI_add, if_pos (by rw [nI_leI (by omega) (by omega)]; omega)]
      unfold F_Bu_makeBundle_85
      rw [h7, nI_1]
    · have : i = n := by omega
      subst this
      exact h
  | succ d ih =>
    intro i N I hi hN hr h7
    obtain ⟨N, rfl⟩ : ∃ z, N = z + 1 := ⟨N - 1, by omega⟩
    have hwi := hw (a + i) (by omega)
    obtain ⟨I2, i1, i2, i3, i4⟩ := ih (i + 1) N (pm_up I 96 (w (a + i)) (nI m)) (by omega) (by omega) (fun r h => by rw [ur, if_neg (by omega)]; exact hr r h) (by rw [ur, if_neg (by omega)]; exact h7)
    refine ⟨I2, ?_, fun bo0 h => i2 bo0 (fun p hp => ?_), i3, On.trans (On.up (On.refl _) (by omega)) i4⟩
    · rw [F_Bu_makeBundle_48, nI_add, if_neg (by rw [nI_leI (by omega) (by omega)]; omega), show (120 : Int32) = nI 120 from rfl, if_neg (by rw [nI_leI (by omega) (by omega)]; omega), vqT (show a + i < 120 by omega) (by omega), nI_clamp (by omega), hr (a + i) (by omega), vqT (show w (a + i) < 120 by omega) (by omega), nI_clamp (by omega), h7, nI_io1, nI_add]
      exact i1
    · rw [ur, setN]
      by_cases c : p = w (a + i)
      · rw [if_pos ⟨rfl, c⟩, if_pos c]
      · rw [if_neg (fun z => c z.2), if_neg c]
        exact h p hp
theorem c_mk {a n : Nat} {X : BX} {I : pm_II} (hu : 200 ≤ u) (hL : L ≤ 120) (hR : R ≤ 120) (hw : ∀ r, r < R → w r < L) (ha : a + n ≤ R) (hn : 1 ≤ n) (hm : X.1 < 120) (hr : ∀ r, r < R → I 97 r = nI (w r)) (hX : CX L X I) : ∃ I2, F_Bu_makeBundle u (nI a) (nI n) (nI its) I J = some ((), I2, J) ∧ CX L (mkB its w a n X) I2 ∧ On kBI I I2 := by
  obtain ⟨h7, h96, hk⟩ := hX
  obtain ⟨I2, i1, i2, i3, i4⟩ := c_mk48 (u := u) (J := J) (m := X.1) hL hR hw ha n 0 u (pm_up (pm_up (pm_up I 98 X.1 (nI its)) 99 X.1 (nI n)) 100 X.1 (nI (w a))) (by omega) (by omega) (fun r h => by rw [ur, if_neg (by omega), ur, if_neg (by omega), ur, if_neg (by omega)]; exact hr r h) h7
  refine ⟨I2, ?_, ⟨i3, i2 X.2.1 (fun p hp => ?_), fun k hk2 => ?_⟩, ?_⟩
  · unfold F_Bu_makeBundle
    rw [h7, show (120 : Int32) = nI 120 from rfl, if_pos (by rw [nI_ltI (by omega) (by omega)]; exact hm), vqT hm (by omega), vqT (show a < 120 by omega) (by omega), nI_clamp (by omega), nI_clamp (by omega), hr a (by omega)]
    exact i1
  · rw [ur, if_neg (by omega), ur, if_neg (by omega), ur, if_neg (by omega)]
    exact h96 p hp
  · have hk3 : k < X.1 + 1 := hk2
    rw [i4 98 k (by omega), i4 99 k (by omega), i4 100 k (by omega)]
    show _ = up1 X.2.2.1 X.1 (nI its) k ∧ _ = up1 X.2.2.2.1 X.1 (nI n) k ∧ _ = up1 X.2.2.2.2 X.1 (nI (w a)) k
    unfold up1
    simp only [ur]
    by_cases c : k = X.1
    · simp [c]
    · have := hk k (by omega)
      simp [c, this]
  · refine On.trans (On.up (On.up (On.up (On.refl _) ?_) ?_) ?_) (On.mono i4 (fun c k h => ?_)) <;> (unfold kBI; omega)
theorem c_grp (hu : 200 ≤ u) (hL : L ≤ 120) (hR : R ≤ 120) (hw : ∀ r, r < R → w r < L) (hi : ∀ r t, r < R → t < R → w r = w t → r = t) (hf : 1 ≤ few) (hfm : few ≤ most) (hm30 : most ≤ 30) : ∀ (f a c N : Nat) (X : BX) (I : pm_II), c ≤ f → a + c ≤ R → f + 2 ≤ N → OB L w R a X → CX L X I → (∀ r, r < R → I 97 r = nI (w r)) → I 95 6 = nI most → ∃ I2, F_Bu_bundleGroup_18 u N (nI (a + c)) (nI its) (nI few) (nI a) I J = some ((), I2, J) ∧ CX L (grp its most few w f a c X) I2 ∧ OB L w R (a + c) (grp its most few w f a c X) ∧ On kBI I I2 := by
  intro f
  induction f with
  | zero =>
    intro a c N X I hc ha hN hO hX hr h6
    obtain ⟨N, rfl⟩ : ∃ z, N = z + 1 := ⟨N - 1, by omega⟩
    refine ⟨I, ?_, hX, ⟨hO.1, fun r h => hO.2 r (by omega)⟩, On.refl _⟩
    rw [F_Bu_bundleGroup_18, if_pos (by rw [nI_leI (by omega) (by omega)]; omega)]
    rfl
  | succ f ih =>
    intro a c N X I hc ha hN hO hX hr h6
    obtain ⟨N, rfl⟩ : ∃ z, N = z + 2 := ⟨N - 2, by omega⟩
    by_cases c0 : c = 0
    · subst c0
      refine ⟨I, ?_, ?_, ?_, On.refl _⟩
      · rw [F_Bu_bundleGroup_18, if_pos (by rw [nI_leI (by omega) (by omega)]; omega)]
        rfl
      · rw [grp, if_neg (by omega)]; exact hX
      · rw [grp, if_neg (by omega)]; exact hO
    · have hmin : F_Jm_min_II u (nI most) (nI (a + c) - nI a) I J = some (nI (min most c), I, J) := by
        rw [nI_sub2 (by omega), show a + c - a = c by omega]
        exact j_minN (by omega) (by omega)
      have h0 : ¬ nI most ≤ 0 := by
        rw [show (0 : Int32) = nI 0 from rfl, nI_leI (by omega) (by omega)]; omega
      by_cases cf : few ≤ min most c
      · obtain ⟨hml, hO2⟩ := OB_mk (its := its) hL hw hi hO (n := min most c) (by omega) (by omega)
        obtain ⟨I1, e1, e2, e3⟩ := c_mk (u := u) (J := J) (its := its) (a := a) (n := min most c) hu hL hR hw (by omega) (by omega) (by omega) hr hX
        have r97 : ∀ r, r < R → I1 97 r = nI (w r) := fun r h => by rw [e3 97 r (by unfold kBI; omega)]; exact hr r h
        have r6 : I1 95 6 = nI most := by rw [e3 95 6 (by unfold kBI; omega)]; exact h6
        by_cases cm : c ≤ most
        · refine ⟨I1, ?_, ?_, ?_, e3⟩
          · rw [F_Bu_bundleGroup_18, if_neg (by rw [nI_leI (by omega) (by omega)]; omega), h6, if_neg h0, hmin, bd_s, if_neg (by rw [nI_ltI (by omega) (by omega)]; omega), e1, bd_s]
            unfold F_Bu_bundleGroup_60
            rw [r6, nI_add, F_Bu_bundleGroup_18, if_pos (by rw [nI_leI (by omega) (by omega)]; omega)]
            rfl
          · rw [grp, if_pos cf, show c - min most c = 0 by omega]
            cases f with
            | zero => exact e2
            | succ f => rw [grp, if_neg (by omega)]; exact e2
          · rw [grp, if_pos cf, show c - min most c = 0 by omega]
            have e : a + min most c = a + c := by omega
            rw [e] at hO2 ⊢
            cases f with
            | zero => exact hO2
            | succ f => rw [grp, if_neg (by omega)]; exact hO2
        · have em : min most c = most := by omega
          obtain ⟨I2, f1, f2, f3, f4⟩ := ih (a + most) (c - most) (N + 1) _ I1 (by omega) (by omega) (by omega) (by rw [em] at hO2; exact hO2) (by rw [em] at e2; exact e2) r97 r6
          rw [show a + most + (c - most) = a + c by omega] at f1 f3
          refine ⟨I2, ?_, ?_, ?_, e3.trans f4⟩
          · rw [F_Bu_bundleGroup_18, if_neg (by rw [nI_leI (by omega) (by omega)]; omega), h6, if_neg h0, hmin, bd_s, if_neg (by rw [nI_ltI (by omega) (by omega)]; omega), e1, bd_s]
            unfold F_Bu_bundleGroup_60
            rw [r6, nI_add]
            exact f1
          · rw [grp, if_pos cf, em]; exact f2
          · rw [grp, if_pos cf, em]; exact f3
      · refine ⟨I, ?_, ?_, ?_, On.refl _⟩
        · rw [F_Bu_bundleGroup_18, if_neg (by rw [nI_leI (by omega) (by omega)]; omega), h6, if_neg h0, hmin, bd_s, if_pos (by rw [nI_ltI (by omega) (by omega)]; omega)]
          unfold F_Bu_bundleGroup_60
          rw [h6, nI_add, F_Bu_bundleGroup_18, if_pos (by rw [nI_leI (by omega) (by omega)]; omega)]
          rfl
        · rw [grp, if_neg cf]; exact hX
        · rw [grp, if_neg cf]; exact ⟨hO.1, fun r h => hO.2 r (by omega)⟩
end BunC
