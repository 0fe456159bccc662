/-! ===== bundles: the model ===== -/
def kMB (c k : Nat) : Prop := c = 163 ∨ c = 165 ∨ c = 166 ∨ c = 167 ∨ (c = 120 ∧ k = 77)
def wfM (L most least : Nat) (g o : Nat → Nat) (I : pm_II) : Prop := I 120 73 = nI L ∧ (∀ p, p < L → I 164 p = nI (o p) ∧ o p < 161 ∧ I 162 (o p) = nI (g p)) ∧ I 120 75 = nI least ∧ I 120 76 = nI most
section BunM
variable {u : Nat} {J : pm_JJ} {L most least : Nat} {g o : Nat → Nat}
theorem wfM.on {I I2 : pm_II} (h : wfM L most least g o I) (h2 : On kMB I I2) : wfM L most least g o I2 := by
  obtain ⟨a, b, c, d⟩ := h
  exact ⟨by rw [h2 120 73 (by unfold kMB; omega)]; exact a, fun p hp => by rw [h2 164 p (by unfold kMB; omega), h2 162 (o p) (by unfold kMB; omega)]; exact b p hp, by rw [h2 120 75 (by unfold kMB; omega)]; exact c, by rw [h2 120 76 (by unfold kMB; omega)]; exact d⟩
theorem m_152 {G : Nat → Bool} {a n c m its : Nat} {bo0 : Nat → Int32} {x2 x5 : Int32} {K2 : Int32 → Int32 → Int32 → pm_II → pm_JJ → Option (Unit × pm_II × pm_JJ)} {K89 : Int32 → Int32 → Int32 → Int32 → Int32 → pm_II → pm_JJ → Option (Unit × pm_II × pm_JJ)} (hL : L ≤ 120) (hm : m < 120) (hnc : n ≤ c) (hn : 1 ≤ n) (ha : a + n ≤ cnt G L) (hb1 : ∀ r, a ≤ r → r < cnt G L → bo0 (WW G L r) = -1) (hb2 : ∀ p, p < L → G p = false → ¬ bo0 p = -1) : ∀ (d q i N : Nat) (I : pm_II), q + d = L → d < N → i ≤ n → cnt G q = a + i → I 120 77 = nI m → (∀ p, p < L → I 163 p = setN (WW G L) a (nI m) i bo0 p) → (0 < i → I 167 m = nI (WW G L a)) → ∃ q2 I2, F_Mo_stage_152 u K2 K89 N (nI its) x2 (nI c) x5 (nI q) (nI n) (nI i) I J = K89 (nI its) x2 (nI (c - n)) x5 (nI q2) I2 J ∧ q2 ≤ L ∧ cnt G q2 = a + n ∧ I2 120 77 = nI (m + 1) ∧ (∀ p, p < L → I2 163 p = setN (WW G L) a (nI m) n bo0 p) ∧ I2 167 m = nI (WW G L a) ∧ On (fun c k => c = 163 ∨ (c = 167 ∧ k = m) ∨ (c = 120 ∧ k = 77)) I I2 := by
  have hcl := cnt_le (G := G) L
  intro d
  induction d with
  | zero =>
    intro q i N I hq hN hi hc h77 h163 h167
    obtain ⟨N, rfl⟩ : ∃ z, N = z + 1 := ⟨N - 1, by omega⟩
    have : q = L := by omega
    subst this
    have : i = n := by omega
    subst this
    refine ⟨q, pm_up I 120 77 (nI (m + 1)), ?_, by omega, hc, rfl, h163, h167 (by omega), On.up (On.refl _) (by omega)⟩
    rw [F_Mo_stage_152, if_pos (by rw [nI_leI (by omega) (by omega)]; omega), nI_sub2 hnc, h77, nI_1]
  | succ d ih =>
    intro q i N I hq hN hi hc h77 h163 h167
    obtain ⟨N, rfl⟩ : ∃ z, N = z + 1 := ⟨N - 1, by omega⟩
    by_cases cn : i = n
    · subst cn
      refine ⟨q, pm_up I 120 77 (nI (m + 1)), ?_, by omega, hc, rfl, h163, h167 (by omega), On.up (On.refl _) (by omega)⟩
      rw [F_Mo_stage_152, if_pos (by rw [nI_leI (by omega) (by omega)]; omega), nI_sub2 hnc, h77, nI_1]
    · have hs : cnt G (q + 1) = cnt G q + (G q).toNat := rfl
      rw [F_Mo_stage_152, if_neg (by rw [nI_leI (by omega) (by omega)]; omega), vqT (show q < 121 by omega) (by omega), nI_clamp (by omega), h163 q (by omega), cond_true]
      cases hg : G q with
      | false =>
        have hs' : cnt G (q + 1) = cnt G q := by rw [hs, hg]; rfl
        have hne : ¬ setN (WW G L) a (nI m) i bo0 q = -1 := by
          rw [setN_o (fun r h1 h2 z => by have := (WW_h (G := G) (L := L) (r := r) (by omega)).2.1; rw [← z, hg] at this; cases this)]
          exact hb2 q (by omega) hg
        rw [if_pos hne, nI_io1, nI_add]
        exact ih (q + 1) i N I (by omega) (by omega) hi (by omega) h77 h163 h167
      | true =>
        have hs' : cnt G (q + 1) = cnt G q + 1 := by rw [hs, hg]; rfl
        have hq2 : WW G L (a + i) = q := by rw [← hc]; exact WW_q (by omega) hg
        have hne : setN (WW G L) a (nI m) i bo0 q = -1 := by
          rw [setN_o (fun r h1 h2 z => by
            rw [← hq2] at z
            have := WW_inj (G := G) (L := L) (by omega) (by omega) z
            omega), ← hq2]
          exact hb1 _ (by omega) (by omega)
        rw [if_neg (fun z => z hne)]
        have key : ∀ I1 : pm_II, I1 120 77 = nI m → (∀ p, p < L → I1 163 p = setN (WW G L) a (nI m) i bo0 p) → I1 167 m = nI (WW G L a) → On (fun c k => c = 163 ∨ (c = 167 ∧ k = m) ∨ (c = 120 ∧ k = 77)) I I1 → ∃ q2 I2, F_Mo_stage_186 u K2 K89 (F_Mo_stage_152 u K2 K89 N) (nI its) x2 (nI c) x5 (nI q) (nI n) (nI i) I1 J = K89 (nI its) x2 (nI (c - n)) x5 (nI q2) I2 J ∧ q2 ≤ L ∧ cnt G q2 = a + n ∧ I2 120 77 = nI (m + 1) ∧ (∀ p, p < L → I2 163 p = setN (WW G L) a (nI m) n bo0 p) ∧ I2 167 m = nI (WW G L a) ∧ On (fun c k => c = 163 ∨ (c = 167 ∧ k = m) ∨ (c = 120 ∧ k = 77)) I I2 := by
          intro I1 k1 k2 k3 k4
          obtain ⟨q2, I2, i1, i2, i3, i4, i5, i6, i7⟩ := ih (q + 1) (i + 1) N (pm_up I1 163 q (nI m)) (by omega) (by omega) (by omega) (by omega) k1 (fun p hp => by
            rw [ur, setN, hq2]
            by_cases z : p = q
            · rw [if_pos ⟨rfl, z⟩, if_pos z]
            · rw [if_neg (fun y => z y.2), if_neg z]; exact k2 p hp) (fun _ => k3)
          refine ⟨q2, I2, ?_, i2, i3, i4, i5, i6, k4.trans (On.trans (On.up (On.refl _) (Or.inl rfl)) i7)⟩
          unfold F_Mo_stage_186
          rw [vqT (show q < 121 by omega) (by omega), nI_clamp (by omega), k1, nI_io1, nI_add, nI_add]
          exact i1
        by_cases c0 : i = 0
        · subst c0
          rw [if_neg (show ¬ ¬ nI 0 = 0 by decide), h77, vqT (show m < 121 by omega) (by omega), nI_clamp (by omega), cond_true]
          refine key _ h77 (fun p hp => by rw [ur, if_neg (by omega)]; exact h163 p hp) ?_ (On.up (On.refl _) (Or.inr (Or.inl ⟨rfl, rfl⟩)))
          rw [ur, if_pos ⟨rfl, rfl⟩, ← hq2]
          rfl
        · rw [if_pos (by rw [i0_iff (by omega)]; exact c0)]
          exact key I h77 h163 (h167 (by omega)) (On.refl _)
theorem m_grp {G : Nat → Bool} {its few : Nat} {x2 x5 : Int32} {K2 : Int32 → Int32 → Int32 → pm_II → pm_JJ → Option (Unit × pm_II × pm_JJ)} (hu : 400 ≤ u) (hL : L ≤ 120) (hi : its ≤ 2) (h1 : 1 ≤ least) (h2 : least ≤ most) (h30 : most ≤ 30) (hfw : few = fewB its least) : ∀ (f a c q N : Nat) (X : BX) (I : pm_II), c ≤ f → a + c ≤ cnt G L → f < N → q ≤ L → cnt G q = a → I 120 75 = nI least → I 120 76 = nI most → OB L (WW G L) (cnt G L) a X → (∀ p, p < L → G p = false → ¬ X.2.1 p = -1) → MX L X I → ∃ I2, F_Mo_stage_89 u K2 N (nI its) x2 (nI c) x5 (nI q) I J = K2 (nI its) x2 x5 I2 J ∧ MX L (grp its most few (WW G L) f a c X) I2 ∧ OB L (WW G L) (cnt G L) (a + c) (grp its most few (WW G L) f a c X) ∧ (∀ p, p < L → G p = false → ¬ (grp its most few (WW G L) f a c X).2.1 p = -1) ∧ On kMB I I2 := by
  have hcl := cnt_le (G := G) L
  obtain ⟨hf1, hf2⟩ := few_ok (its := its) h1 h2
  rw [← hfw] at hf1 hf2
  have stop : ∀ (a c q N : Nat) (X : BX) (I : pm_II), a + c ≤ cnt G L → ¬ few ≤ min most c → I 120 75 = nI least → I 120 76 = nI most → F_Mo_stage_89 u K2 (N + 1) (nI its) x2 (nI c) x5 (nI q) I J = K2 (nI its) x2 x5 I J := by
    intro a c q N X I hac hn h75 h76
    rw [F_Mo_stage_89, h76, if_neg (by rw [nI_leI (by omega) (by omega)]; omega)]
    by_cases c0 : c = 0
    · subst c0; rw [if_pos (by decide)]; rfl
    · rw [if_neg (by rw [show (0 : Int32) = nI 0 from rfl, nI_leI (by omega) (by omega)]; omega)]
      have hne : ¬ its = 2 := fun z => by rw [hfw, z] at hn; unfold fewB at hn; rw [if_pos rfl] at hn; omega
      rw [if_neg (by rw [show (2 : Int32) = nI 2 from rfl, nI_eq (by omega) (by omega)]; exact hne), h75, if_pos (by rw [nI_ltI (by omega) (by omega)]; rw [hfw] at hn; unfold fewB at hn; rw [if_neg hne] at hn; omega)]
      rfl
  have goes : ∀ (a c q N : Nat) (I : pm_II), a + c ≤ cnt G L → few ≤ min most c → I 120 75 = nI least → I 120 76 = nI most → F_Mo_stage_89 u K2 (N + 1) (nI its) x2 (nI c) x5 (nI q) I J = F_Mo_stage_117 u K2 (F_Mo_stage_89 u K2 N) (nI its) x2 (nI c) x5 (nI q) I J := by
    intro a c q N I hac hn h75 h76
    rw [F_Mo_stage_89, h76]
    by_cases cm : most ≤ c
    · rw [if_pos (by rw [nI_leI (by omega) (by omega)]; omega)]
    · rw [if_neg (by rw [nI_leI (by omega) (by omega)]; omega), if_neg (by rw [show (0 : Int32) = nI 0 from rfl, nI_leI (by omega) (by omega)]; omega)]
      by_cases c2 : its = 2
      · rw [if_pos (by rw [c2]; rfl)]
      · rw [if_neg (by rw [show (2 : Int32) = nI 2 from rfl, nI_eq (by omega) (by omega)]; exact c2), h75, if_neg (by rw [nI_ltI (by omega) (by omega)]; rw [hfw] at hn; unfold fewB at hn; rw [if_neg c2] at hn; omega)]
  intro f
  induction f with
  | zero =>
    intro a c q N X I hc ha hN hq hcq h75 h76 hO hb hX
    obtain ⟨N, rfl⟩ : ∃ z, N = z + 1 := ⟨N - 1, by omega⟩
    refine ⟨I, stop a c q N X I ha (by omega) h75 h76, hX, ⟨hO.1, fun r h => hO.2 r (by omega)⟩, hb, On.refl _⟩
  | succ f ih =>
    intro a c q N X I hc ha hN hq hcq h75 h76 hO hb hX
    obtain ⟨N, rfl⟩ : ∃ z, N = z + 1 := ⟨N - 1, by omega⟩
    by_cases cf : few ≤ min most c
    · obtain ⟨hml, hO2⟩ := OB_mk (its := its) (w := WW G L) (R := cnt G L) hL (fun r hr => (WW_h hr).1) (fun r t hr ht z => WW_inj hr ht z) hO (n := min most c) (by omega) (by omega)
      obtain ⟨q2, I2, e1, e2, e3, e4, e5, e6, e7⟩ := m_152 (u := u) (J := J) (G := G) (a := a) (n := min most c) (c := c) (m := X.1) (its := its) (bo0 := X.2.1) (x2 := x2) (x5 := x5) (K2 := K2) (K89 := F_Mo_stage_89 u K2 N) hL (by omega) (by omega) (by omega) (by omega) hO.2 hb (L - q) q 0 u (pm_up (pm_up I 165 X.1 (nI its)) 166 X.1 (nI (min most c))) (by omega) (by omega) (by omega) (by omega) hX.1 (fun p hp => hX.2.1 p hp) (fun z => absurd z (Nat.lt_irrefl _))
      have o2 : On kMB I I2 := by
        refine On.trans (On.up (On.up (On.refl _) ?_) ?_) (On.mono e7 (fun c k h => ?_)) <;> (unfold kMB; omega)
      have hX2 : MX L (mkB its (WW G L) a (min most c) X) I2 := by
        refine ⟨e4, e5, fun k hk => ?_⟩
        have hk3 : k < X.1 + 1 := hk
        show _ = up1 X.2.2.1 X.1 (nI its) k ∧ _ = up1 X.2.2.2.1 X.1 (nI (min most c)) k ∧ _ = up1 X.2.2.2.2 X.1 (nI (WW G L a)) k
        unfold up1
        by_cases z : k = X.1
        · subst z
          rw [if_pos rfl, if_pos rfl, if_pos rfl, e7 165 _ (by omega), e7 166 _ (by omega), e6]
          simp only [ur]
          simp
        · rw [if_neg z, if_neg z, if_neg z, e7 165 k (by omega), e7 166 k (by omega), e7 167 k (by omega)]
          simp only [ur]
          have := hX.2.2 k (by omega)
          simp [z, this]
      have hb3 : ∀ p, p < L → G p = false → ¬ (mkB its (WW G L) a (min most c) X).2.1 p = -1 := by
        intro p hp hg
        show ¬ setN (WW G L) a (nI X.1) (min most c) X.2.1 p = -1
        rw [setN_o (fun r h1 h2 z => by have := (WW_h (G := G) (L := L) (r := r) (by omega)).2.1; rw [← z, hg] at this; cases this)]
        exact hb p hp hg
      obtain ⟨I3, f1, f2, f3, f4, f5⟩ := ih (a + min most c) (c - min most c) q2 N _ I2 (by omega) (by omega) (by omega) e2 e3 (by rw [o2 120 75 (by unfold kMB; omega)]; exact h75) (by rw [o2 120 76 (by unfold kMB; omega)]; exact h76) hO2 hb3 hX2
      rw [grp, if_pos cf]
      refine ⟨I3, ?_, f2, ?_, f4, o2.trans f5⟩
      · rw [goes a c q N I ha cf h75 h76]
        unfold F_Mo_stage_117
        rw [h76, j_minN (by omega) (by omega), bd_s, hX.1, vqT (show X.1 < 121 by omega) (by omega), nI_clamp (by omega), Nat.min_comm c most]
        exact e1.trans f1
      · rw [show a + c = a + min most c + (c - min most c) by omega]; exact f3
    · rw [grp, if_neg cf]
      exact ⟨I, stop a c q N X I ha cf h75 h76, hX, ⟨hO.1, fun r h => hO.2 r (by omega)⟩, hb, On.refl _⟩
def byB (its : Nat) : Nat := if its = 0 then 1 else if its = 1 then 100 else 100000
theorem by_ky {its p : Nat} (hi : its ≤ 2) (hg : g p < 100000) : g p / byB its = kyB its g p := by
  unfold byB kyB
  by_cases c : its = 0
  · rw [if_pos c, if_pos c, Nat.div_one]
  · rw [if_neg c, if_neg c]
    by_cases d : its = 1
    · rw [if_pos d, if_neg (by omega)]
    · rw [if_neg d, if_pos (by omega), Nat.div_eq_of_lt hg]
theorem m_run {G : Nat → Bool} {its i : Nat} {I : pm_II} {K2 : Int32 → Int32 → Int32 → pm_II → pm_JJ → Option (Unit × pm_II × pm_JJ)} (hL : L ≤ 120) (hi : its ≤ 2) (hg : ∀ p, p < L → g p < 100000) (hI : wfM L most least g o I) (hb : ∀ p, i ≤ p → p < L → (I 163 p = -1 ↔ G p = true)) : ∀ (d j N : Nat), j + d = L → d < N → i ≤ j → (∀ p, i ≤ p → p < j → kyB its g p = kyB its g i) → i < L → ∃ j2, F_Mo_stage_31 u K2 N (nI its) (nI (byB its)) (nI i) (nI (cnt G j - cnt G i)) (nI j) (nI (kyB its g i)) I J = F_Mo_stage_86 u K2 (nI its) (nI (byB its)) (nI i) (nI (cnt G j2 - cnt G i)) (nI j2) I J ∧ j ≤ j2 ∧ j2 ≤ L ∧ (∀ p, i ≤ p → p < j2 → kyB its g p = kyB its g i) ∧ (j2 = L ∨ ¬ kyB its g j2 = kyB its g i) := by
  have byp : 0 < byB its ∧ byB its < 2 ^ 31 := by unfold byB; split <;> (try split) <;> omega
  have kl : ∀ p, p < L → kyB its g p < 100000 := fun p hp => by
    have := hg p hp
    unfold kyB
    split
    · exact this
    · split <;> omega
  intro d
  induction d with
  | zero =>
    intro j N hj hN hij hk hiL
    obtain ⟨N, rfl⟩ : ∃ z, N = z + 1 := ⟨N - 1, by omega⟩
    have : j = L := by omega
    subst this
    refine ⟨j, ?_, by omega, by omega, hk, Or.inl rfl⟩
    rw [F_Mo_stage_31, hI.1, if_pos (by rw [nI_leI (by omega) (by omega)]; omega)]
  | succ d ih =>
    intro j N hj hN hij hk hiL
    obtain ⟨N, rfl⟩ : ∃ z, N = z + 1 := ⟨N - 1, by omega⟩
    obtain ⟨o1, o2, o3⟩ := hI.2.1 j (by omega)
    have hgj := hg j (by omega)
    have kj := kl j (by omega)
    have ki := kl i hiL
    have hs : cnt G (j + 1) = cnt G j + (G j).toNat := rfl
    have hup := cnt_up (G := G) hij
    have head : F_Mo_stage_31 u K2 (N + 1) (nI its) (nI (byB its)) (nI i) (nI (cnt G j - cnt G i)) (nI j) (nI (kyB its g i)) I J = if ¬ kyB its g j = kyB its g i then F_Mo_stage_86 u K2 (nI its) (nI (byB its)) (nI i) (nI (cnt G j - cnt G i)) (nI j) I J else F_Mo_stage_31 u K2 N (nI its) (nI (byB its)) (nI i) (nI (cnt G (j + 1) - cnt G i)) (nI (j + 1)) (nI (kyB its g i)) I J := by
      rw [F_Mo_stage_31, hI.1, if_neg (by rw [nI_leI (by omega) (by omega)]; omega), vqT (show j < 121 by omega) (by omega), nI_clamp (by omega), o1, vqT o2 (by omega), nI_clamp (by omega), o3]
      simp only [cond_true]
      rw [if_pos (by rw [i0_iff (by omega)]; omega), dvI (by omega) (by omega) (by omega), by_ky hi hgj]
      simp only [nI_eq (show kyB its g j < 2 ^ 31 by omega) (show kyB its g i < 2 ^ 31 by omega)]
      by_cases z : kyB its g j = kyB its g i
      · have nz : ¬ ¬ kyB its g j = kyB its g i := fun y => y z
        rw [if_neg nz, if_neg nz]
        by_cases y : I 163 j = -1
        · have hgt := (hb j hij (by omega)).mp y
          have ny : ¬ ¬ I 163 j = -1 := fun x => x y
          rw [if_neg ny, nI_io1, nI_add, nl_1, nI_add, hs, hgt, show cnt G j + (true).toNat - cnt G i = cnt G j - cnt G i + 1 by rw [show (true).toNat = 1 from rfl]; omega]
        · have hgt : G j = false := by
            cases hh : G j with
            | false => rfl
            | true => exact absurd ((hb j hij (by omega)).mpr hh) y
          rw [if_pos y, nI_io1, nI_add, show (0 : Int32) = nI 0 from rfl, nI_add, hs, hgt]
          rfl
      · rw [if_pos z, if_pos z]
    rw [head]
    by_cases z : kyB its g j = kyB its g i
    · rw [if_neg (fun y => y z)]
      obtain ⟨j2, a1, a2, a3, a4⟩ := ih (j + 1) N (by omega) (by omega) (by omega) (fun p h1 h2 => by
        by_cases y : p = j
        · rw [y]; exact z
        · exact hk p h1 (by omega)) hiL
      exact ⟨j2, a1, by omega, a3, a4⟩
    · rw [if_pos z]
      exact ⟨j, rfl, by omega, by omega, hk, Or.inr z⟩
theorem m_st2 {G : Nat → Bool} {its few : Nat} {E : Nat → Nat} (hu : 400 ≤ u) (hL : L ≤ 120) (hi : its ≤ 2) (h1 : 1 ≤ least) (h2 : least ≤ most) (h30 : most ≤ 30) (hfw : few = fewB its least) (hg : ∀ p, p < L → g p < 100000) (hmo : ∀ p q, p ≤ q → q < L → g p ≤ g q) (hE : ∀ a, a < cnt G L → IsE (fun r => kyB its g (WW G L r)) (cnt G L) a (E a)) : ∀ (d i N f : Nat) (X : BX) (I : pm_II), i + d ≤ L → L ≤ i + d → d < N → cnt G L - cnt G i ≤ f → wfM L most least g o I → OB L (WW G L) (cnt G L) (cnt G i) X → (∀ p, p < L → G p = false → ¬ X.2.1 p = -1) → MX L X I → ∃ I2, F_Mo_stage_2 u N (nI its) (nI (byB its)) (nI i) I J = some ((), I2, J) ∧ MX L (stg its most few (WW G L) E (cnt G L) f (cnt G i) X) I2 ∧ OB L (WW G L) (cnt G L) (cnt G L) (stg its most few (WW G L) E (cnt G L) f (cnt G i) X) ∧ On kMB I I2 := by
  have hcl := cnt_le (G := G) L
  have byp : 0 < byB its ∧ byB its < 2 ^ 31 := by unfold byB; split <;> (try split) <;> omega
  have kmo : ∀ p q, p ≤ q → q < L → kyB its g p ≤ kyB its g q := fun p q h hq => by
    have := hmo p q h hq
    unfold kyB
    split
    · exact this
    · split
      · omega
      · exact Nat.div_le_div_right this
  intro d
  induction d using Nat.strongRecOn with
  | ind d ih =>
    intro i N f X I hd1 hd2 hN hf hI hO hb hX
    obtain ⟨N, rfl⟩ : ∃ z, N = z + 1 := ⟨N - 1, by omega⟩
    by_cases ci : i = L
    · subst ci
      have es : stg its most few (WW G i) E (cnt G i) f (cnt G i) X = X := by
        cases f with
        | zero => rfl
        | succ f => rw [stg, if_neg (by omega)]
      rw [es]
      refine ⟨I, ?_, hX, hO, On.refl _⟩
      rw [F_Mo_stage_2, hI.1, if_pos (by rw [nI_leI (by omega) (by omega)]; omega)]
    · have hiL : i < L := by omega
      obtain ⟨o1, o2, o3⟩ := hI.2.1 i hiL
      have hgi := hg i hiL
      have hbb : ∀ p, i ≤ p → p < L → (I 163 p = -1 ↔ G p = true) := by
        intro p hp hpL
        rw [hX.2.1 p hpL]
        constructor
        · intro z
          cases hh : G p with
          | true => rfl
          | false => exact absurd z (hb p hpL hh)
        · intro z
          have e := WW_q hpL z
          have h3 := cnt_up (G := G) hp
          have h4 := cnt_st hpL z
          have := hO.2 (cnt G p) h3 h4
          rw [e] at this
          exact this
      obtain ⟨j, a1, a2, a3, a4, a5⟩ := m_run (u := u) (J := J) (G := G) (its := its) (i := i) (I := I) (K2 := F_Mo_stage_2 u N) hL hi hg hI hbb (L - i) i u (by omega) (by omega) (Nat.le_refl _) (fun p h1 h2 => by rw [show p = i by omega]) hiL
      have hij : i < j := by
        by_cases z : i = j
        · rcases a5 with y | y
          · omega
          · rw [← z] at y; exact absurd rfl y
        · omega
      have hup := cnt_up (G := G) (Nat.le_of_lt hij)
      have hupL := cnt_up (G := G) a3
      have head : F_Mo_stage_2 u (N + 1) (nI its) (nI (byB its)) (nI i) I J = F_Mo_stage_89 u (F_Mo_stage_2 u N) u (nI its) (nI (byB its)) (nI (cnt G j - cnt G i)) (nI j) (nI i) I J := by
        rw [F_Mo_stage_2, hI.1, if_neg (by rw [nI_leI (by omega) (by omega)]; omega), vqT (show i < 121 by omega) (by omega), nI_clamp (by omega), o1, vqT o2 (by omega), nI_clamp (by omega), o3]
        simp only [cond_true]
        rw [if_pos (by rw [i0_iff (by omega)]; omega), dvI (by omega) (by omega) (by omega), by_ky hi hgi]
        rw [show cnt G i - cnt G i = 0 by omega] at a1
        exact a1
      obtain ⟨I1, e1, e2, e3, e4, e5⟩ := m_grp (u := u) (J := J) (G := G) (its := its) (few := few) (x2 := nI (byB its)) (x5 := nI j) (K2 := F_Mo_stage_2 u N) hu hL hi h1 h2 h30 hfw (cnt G j - cnt G i) (cnt G i) (cnt G j - cnt G i) i u X I (by omega) (by omega) (by omega) (by omega) rfl hI.2.2.1 hI.2.2.2 hO hb hX
      rw [show cnt G i + (cnt G j - cnt G i) = cnt G j by omega] at e3
      rw [head, e1]
      by_cases c0 : cnt G j = cnt G i
      · have eg : grp its most few (WW G L) (cnt G j - cnt G i) (cnt G i) (cnt G j - cnt G i) X = X := by rw [show cnt G j - cnt G i = 0 by omega]; rfl
        rw [eg] at e2 e3 e4
        obtain ⟨I2, f1, f2, f3, f4⟩ := ih (L - j) (by omega) j N f X I1 (by omega) (by omega) (by omega) (by omega) (hI.on e5) e3 e4 e2
        rw [c0] at f2 f3
        exact ⟨I2, f1, f2, f3, e5.trans f4⟩
      · have hr0 : cnt G i < cnt G L := by omega
        obtain ⟨f, rfl⟩ : ∃ z, f = z + 1 := ⟨f - 1, by omega⟩
        have wlo : ∀ r, cnt G i ≤ r → r < cnt G L → i ≤ WW G L r := by
          intro r h1 h2
          obtain ⟨b1, b2, b3⟩ := WW_h (G := G) h2
          by_cases z : i ≤ WW G L r
          · exact z
          · have := cnt_st (G := G) (p := WW G L r) (q := i) (by omega) b2
            omega
        have whi : ∀ r, r < cnt G j → WW G L r < j := by
          intro r h1
          obtain ⟨b1, b2, b3⟩ := WW_h (G := G) (L := L) (r := r) (by omega)
          by_cases z : WW G L r < j
          · exact z
          · have := cnt_up (G := G) (p := j) (q := WW G L r) (by omega)
            omega
        have wge : ∀ r, cnt G j ≤ r → r < cnt G L → j ≤ WW G L r := by
          intro r h1 h2
          obtain ⟨b1, b2, b3⟩ := WW_h (G := G) h2
          by_cases z : j ≤ WW G L r
          · exact z
          · have := cnt_st (G := G) (p := WW G L r) (q := j) (by omega) b2
            omega
        have ka : kyB its g (WW G L (cnt G i)) = kyB its g i := a4 _ (wlo _ (Nat.le_refl _) hr0) (whi _ (by omega))
        have hie : IsE (fun r => kyB its g (WW G L r)) (cnt G L) (cnt G i) (cnt G j) := by
          refine ⟨by omega, hupL, fun r h1 h2 => ?_, ?_⟩
          · show kyB its g (WW G L r) = kyB its g (WW G L (cnt G i))
            rw [ka]
            exact a4 _ (wlo r h1 (by omega)) (whi r h2)
          · by_cases z : cnt G j = cnt G L
            · exact Or.inl z
            · refine Or.inr ?_
              show ¬ kyB its g (WW G L (cnt G j)) = kyB its g (WW G L (cnt G i))
              rw [ka]
              have b0 := wge (cnt G j) (Nat.le_refl _) (by omega)
              have b1 := (WW_h (G := G) (L := L) (r := cnt G j) (by omega)).1
              rcases a5 with y | y
              · omega
              · have k1 := kmo j (WW G L (cnt G j)) b0 b1
                have k2 := kmo i j (by omega) (by omega)
                omega
        have eE : E (cnt G i) = cnt G j := IsE_u (hE _ hr0) hie
        obtain ⟨I2, f1, f2, f3, f4⟩ := ih (L - j) (by omega) j N f _ I1 (by omega) (by omega) (by omega) (by omega) (hI.on e5) e3 e4 e2
        have es : stg its most few (WW G L) E (cnt G L) (f + 1) (cnt G i) X = stg its most few (WW G L) E (cnt G L) f (cnt G j) (grp its most few (WW G L) (cnt G j - cnt G i) (cnt G i) (cnt G j - cnt G i) X) := by
          rw [stg, if_pos hr0, eE]
        rw [es]
        exact ⟨I2, f1, f2, f3, e5.trans f4⟩
theorem m_stage {its : Nat} {X : BX} {I : pm_II} (hu : 400 ≤ u) (hL : L ≤ 120) (hi : its ≤ 2) (h1 : 1 ≤ least) (h2 : least ≤ most) (h30 : most ≤ 30) (hg : ∀ p, p < L → g p < 100000) (hmo : ∀ p q, p ≤ q → q < L → g p ≤ g q) (hI : wfM L most least g o I) (hO : X.1 + cnt (frb X.2.1) L ≤ L) (hX : MX L X I) : ∃ I2, F_Mo_stage u (nI its) (nI (byB its)) I J = some ((), I2, J) ∧ MX L (stB its most least L g X) I2 ∧ (stB its most least L g X).1 + cnt (frb (stB its most least L g X).2.1) L ≤ L ∧ wfM L most least g o I2 ∧ On kMB I I2 := by
  have hcl := cnt_le (G := frb X.2.1) L
  obtain ⟨I2, e1, e2, e3, e4⟩ := m_st2 (u := u) (J := J) (G := frb X.2.1) (its := its) (few := fewB its least) hu hL hi h1 h2 h30 rfl hg hmo (fun a ha => EE_h ha) L 0 u (cnt (frb X.2.1) L) X I (by omega) (by omega) (by omega) (by omega) hI (OB0 hO) (fun p hp hgf => of_decide_eq_false hgf) hX
  exact ⟨I2, e1, e2, e3.1, hI.on e4, e4⟩
theorem m_stages {I : pm_II} (hu : 400 ≤ u) (hL : L ≤ 120) (h1 : 1 ≤ least) (h2 : least ≤ most) (h30 : most ≤ 30) (hg : ∀ p, p < L → g p < 100000) (hmo : ∀ p q, p ≤ q → q < L → g p ≤ g q) (hI : wfM L most least g o I) (h163 : ∀ p, p < L → I 163 p = -1) : ∃ I2, (bd (F_Mo_stage u (0 : Int32) (1 : Int32) (pm_up I 120 77 0) J) fun _ I73 J73 => bd (F_Mo_stage u (1 : Int32) (100 : Int32) I73 J73) fun _ I80 J80 => bd (F_Mo_stage u (2 : Int32) (Int32.ofNat 100000) I80 J80) fun _ I88 J88 => some ((), I88, J88)) = some ((), I2, J) ∧ MX L (bun L most least g) I2 ∧ wfM L most least g o I2 ∧ On kMB I I2 ∧ (bun L most least g).1 ≤ L := by
  have o0 : On kMB I (pm_up I 120 77 0) := On.up (On.refl _) (by unfold kMB; omega)
  have hX0 : MX L X0B (pm_up I 120 77 0) := ⟨rfl, fun p hp => h163 p hp, fun k hk => absurd hk (Nat.not_lt_zero _)⟩
  have hO : X0B.1 + cnt (frb X0B.2.1) L ≤ L := by
    have := cnt_le (G := frb X0B.2.1) L
    show 0 + _ ≤ L
    omega
  obtain ⟨I2, a1, a2, a3, a4, a5⟩ := m_stage (u := u) (J := J) (its := 0) hu hL (by omega) h1 h2 h30 hg hmo (hI.on o0) hO hX0
  obtain ⟨I3, b1, b2, b3, b4, b5⟩ := m_stage (u := u) (J := J) (its := 1) hu hL (by omega) h1 h2 h30 hg hmo a4 a3 a2
  obtain ⟨I4, c1, c2, c3, c4, c5⟩ := m_stage (u := u) (J := J) (its := 2) hu hL (by omega) h1 h2 h30 hg hmo b4 b3 b2
  have k0 : F_Mo_stage u (0 : Int32) (1 : Int32) (pm_up I 120 77 0) J = some ((), I2, J) := a1
  have k1 : F_Mo_stage u (1 : Int32) (100 : Int32) I2 J = some ((), I3, J) := b1
  have k2 : F_Mo_stage u (2 : Int32) (Int32.ofNat 100000) I3 J = some ((), I4, J) := c1
  exact ⟨I4, by rw [k0, bd_s, k1, bd_s, k2, bd_s], c2, c4, ((o0.trans a5).trans b5).trans c5, Nat.le_trans (Nat.le_add_right _ _) c3⟩
theorem bun_le (hL : L ≤ 120) (h1 : 1 ≤ least) (h2 : least ≤ most) (h30 : most ≤ 30) (hg : ∀ p, p < L → g p < 100000) (hmo : ∀ p q, p ≤ q → q < L → g p ≤ g q) : (bun L most least g).1 ≤ L := by
  obtain ⟨I2, _, _, _, _, h⟩ := m_stages (u := 400) (J := fun _ _ => 0) (o := id) (I := fun c k => if c = 120 then (if k = 73 then nI L else if k = 75 then nI least else nI most) else if c = 164 then nI k else if c = 162 then nI (g k) else -1) (Nat.le_refl _) hL h1 h2 h30 hg hmo ⟨rfl, fun p hp => ⟨rfl, Nat.lt_of_lt_of_le hp (by omega), rfl⟩, rfl, rfl⟩ (fun p hp => rfl)
  exact h
end BunM
