/-! ===== bundles: the class ===== -/
def kyB (its : Nat) (g : Nat → Nat) (p : Nat) : Nat := if its = 0 then g p else if its = 2 then 0 else g p / 100
def fewB (its least : Nat) : Nat := if its = 2 then 1 else least
noncomputable def stB (its most least L : Nat) (g : Nat → Nat) (X : BX) : BX := stg its most (fewB its least) (WW (frb X.2.1) L) (EE (fun r => kyB its g (WW (frb X.2.1) L r)) (cnt (frb X.2.1) L)) (cnt (frb X.2.1) L) (cnt (frb X.2.1) L) 0 X
def X0B : BX := (0, fun _ => -1, fun _ => 0, fun _ => 0, fun _ => 0)
noncomputable def bun (L most least : Nat) (g : Nat → Nat) : BX := stB 2 most least L g (stB 1 most least L g (stB 0 most least L g X0B))
def kCI (c k : Nat) : Prop := kBI c k ∨ c = 97
section BunK
variable {u : Nat} {J : pm_JJ} {L most least : Nat} {g : Nat → Nat}
theorem c_codeL {p : Nat} {I : pm_II} (hL : L ≤ 120) (hp : p < L) (h6 : I 89 6 = nI L) (h90 : ∀ p, p < L → I 90 p = nI (g p)) : F_Ma_codeOf u (nI p) I J = some (nI (g p), I, J) := by
  unfold F_Ma_codeOf F_Ma_has
  rw [if_neg (nI_pos (by omega)), h6, if_neg (by rw [nI_leI (by omega) (by omega)]; omega), show (120 : Int32) = nI 120 from rfl, if_neg (by rw [nI_leI (by omega) (by omega)]; omega), bd_s, if_neg (by decide), vqT (show p < 120 by omega) (by omega), nI_clamp (by omega), h90 p hp]
  rfl
theorem c_groupOf {p its : Nat} {I : pm_II} (hL : L ≤ 120) (hi : its ≤ 2) (hp : p < L) (hg : g p < 100000) (h6 : I 89 6 = nI L) (h90 : ∀ p, p < L → I 90 p = nI (g p)) : F_Bu_groupOf u (nI p) (nI its) I J = some (nI (kyB its g p), I, J) := by
  unfold F_Bu_groupOf
  rw [c_codeL hL hp h6 h90, bd_s]
  unfold kyB
  by_cases c0 : its = 0
  · subst c0; rw [if_neg (by decide), if_pos rfl]
  · by_cases c2 : its = 2
    · subst c2; rw [if_pos (by decide), if_neg (by decide), if_neg c0, if_pos rfl]; rfl
    · have : its = 1 := by omega
      subst this
      rw [if_pos (by decide), if_pos (by decide), if_neg c0, if_neg c2, show (100 : Int32) = nI 100 from rfl, dvI (by omega) (by omega) (by omega)]
theorem c_rest {its : Nat} {bo : Nat → Int32} (hL : L ≤ 120) : ∀ (d p N : Nat) (I : pm_II), p + d = L → d < N → I 89 6 = nI L → (∀ p, p < L → I 96 p = bo p) → (∀ r, r < cnt (frb bo) p → I 97 r = nI (WW (frb bo) L r)) → ∃ I2, F_Bu_bundleKind_5 u N (nI its) (nI (cnt (frb bo) p)) (nI p) I J = F_Bu_bundleKind_49 u (nI its) (nI (cnt (frb bo) L)) I2 J ∧ (∀ r, r < cnt (frb bo) L → I2 97 r = nI (WW (frb bo) L r)) ∧ On (fun c _ => c = 97) I I2 := by
  intro d
  induction d with
  | zero =>
    intro p N I hp hN h6 h96 hr
    obtain ⟨N, rfl⟩ : ∃ z, N = z + 1 := ⟨N - 1, by omega⟩
    have : p = L := by omega
    subst this
    refine ⟨I, ?_, hr, On.refl _⟩
    rw [F_Bu_bundleKind_5]
    unfold F_Ma_howMany
    rw [bd_s, h6, if_pos (by rw [nI_leI (by omega) (by omega)]; omega)]
  | succ d ih =>
    intro p N I hp hN h6 h96 hr
    obtain ⟨N, rfl⟩ : ∃ z, N = z + 1 := ⟨N - 1, by omega⟩
    have hc := cnt_le (G := frb bo) p
    have hs : cnt (frb bo) (p + 1) = cnt (frb bo) p + (frb bo p).toNat := rfl
    have head : F_Bu_bundleKind_5 u (N + 1) (nI its) (nI (cnt (frb bo) p)) (nI p) I J = if ¬ bo p = -1 then F_Bu_bundleKind_5 u N (nI its) (nI (cnt (frb bo) p)) (nI (p + 1)) I J else F_Bu_bundleKind_5 u N (nI its) (nI (cnt (frb bo) p + 1)) (nI (p + 1)) (pm_up I 97 (cnt (frb bo) p) (nI p)) J := by
      rw [F_Bu_bundleKind_5]
      unfold F_Ma_howMany
      rw [bd_s, h6, if_neg (by rw [nI_leI (by omega) (by omega)]; omega), show (120 : Int32) = nI 120 from rfl, if_neg (by rw [nI_leI (by omega) (by omega)]; omega), vqT (show p < 120 by omega) (by omega), nI_clamp (by omega), h96 p (by omega), vqT (show cnt (frb bo) p < 120 by omega) (by omega), nI_clamp (by omega), nI_io1, nI_add, nI_add]
      rfl
    rw [head]
    by_cases c : bo p = -1
    · have hg : frb bo p = true := decide_eq_true c
      rw [hg] at hs
      have hs' : cnt (frb bo) (p + 1) = cnt (frb bo) p + 1 := hs
      rw [if_neg (fun z => z c), ← hs']
      obtain ⟨I2, i1, i2, i3⟩ := ih (p + 1) N (pm_up I 97 (cnt (frb bo) p) (nI p)) (by omega) (by omega) h6 h96 (fun r h => by
        rw [ur]
        by_cases q : r = cnt (frb bo) p
        · rw [if_pos ⟨rfl, q⟩, q, WW_q (by omega) hg]
        · rw [if_neg (fun z => q z.2)]; exact hr r (by omega))
      exact ⟨I2, i1, i2, On.trans (On.up (On.refl _) rfl) i3⟩
    · have hg : frb bo p = false := decide_eq_false c
      rw [hg] at hs
      have hs' : cnt (frb bo) (p + 1) = cnt (frb bo) p := hs
      rw [if_pos c, ← hs']
      exact ih (p + 1) N I (by omega) (by omega) h6 h96 (by rw [hs']; exact hr)
theorem few_ok {its : Nat} (h1 : 1 ≤ least) (h2 : least ≤ most) : 1 ≤ fewB its least ∧ fewB its least ≤ most := by
  unfold fewB; split <;> omega
theorem c_bg {its a e : Nat} {I : pm_II} (hi : its ≤ 2) (h5 : I 95 5 = nI least) : F_Bu_bundleGroup u (nI a) (nI e) (nI its) I J = F_Bu_bundleGroup_18 u u (nI e) (nI its) (nI (fewB its least)) (nI a) I J := by
  unfold F_Bu_bundleGroup fewB
  by_cases c2 : its = 2
  · subst c2; rw [if_neg (by decide), if_pos rfl]; rfl
  · rw [if_pos (by rw [show (2 : Int32) = nI 2 from rfl, nI_eq (by omega) (by omega)]; exact c2), if_neg c2, h5]
theorem c_k55 {its R : Nat} {w E : Nat → Nat} (hu : 400 ≤ u) (hL : L ≤ 120) (hR : R ≤ 120) (hi : its ≤ 2) (h1 : 1 ≤ least) (h2 : least ≤ most) (h30 : most ≤ 30) (hg : ∀ p, p < L → g p < 100000) (hw : ∀ r, r < R → w r < L) (hj : ∀ r t, r < R → t < R → w r = w t → r = t) (hE : ∀ a, a < R → IsE (fun r => kyB its g (w r)) R a (E a)) : ∀ (d a i f N : Nat) (X : BX) (I : pm_II), i + d = R → a < i → i ≤ E a → R - a ≤ f → d + 2 < N → I 89 6 = nI L → (∀ p, p < L → I 90 p = nI (g p)) → I 95 5 = nI least → I 95 6 = nI most → (∀ r, r < R → I 97 r = nI (w r)) → OB L w R a X → CX L X I → ∃ I2, F_Bu_bundleKind_55 u N (nI its) (nI R) (nI a) (nI i) I J = some ((), I2, J) ∧ CX L (stg its most (fewB its least) w E R f a X) I2 ∧ OB L w R R (stg its most (fewB its least) w E R f a X) ∧ On kBI I I2 := by
  obtain ⟨hf1, hf2⟩ := few_ok (its := its) h1 h2
  intro d
  induction d with
  | zero =>
    intro a i f N X I hd ha hE1 hf hN h6 h90 h5 h56 h97 hO hX
    obtain ⟨N, rfl⟩ : ∃ z, N = z + 2 := ⟨N - 2, by omega⟩
    obtain ⟨f, rfl⟩ : ∃ z, f = z + 1 := ⟨f - 1, by omega⟩
    have iR : i = R := by omega
    subst iR
    have he := hE a (by omega)
    have eE : E a = i := by have := he.2.1; omega
    obtain ⟨I2, e1, e2, e3, e4⟩ := c_grp (u := u) (J := J) (its := its) (by omega) hL hR hw hj hf1 hf2 h30 (i - a) a (i - a) u X I (by omega) (by omega) (by omega) hO hX h97 h56
    rw [show a + (i - a) = i by omega] at e1 e3
    have es : stg its most (fewB its least) w E i (f + 1) a X = grp its most (fewB its least) w (i - a) a (i - a) X := by
      rw [stg, if_pos (by omega), eE]
      cases f with
      | zero => rfl
      | succ f => rw [stg, if_neg (by omega)]
    refine ⟨I2, ?_, by rw [es]; exact e2, by rw [es]; exact e3, e4⟩
    rw [F_Bu_bundleKind_55, if_neg (by rw [nI_ltI (by omega) (by omega)]; omega), if_pos rfl]
    unfold F_Bu_bundleKind_94
    rw [c_bg hi h5, e1, bd_s, nI_io1, nI_add, F_Bu_bundleKind_55, if_pos (by rw [nI_ltI (by omega) (by omega)]; omega)]
  | succ d ih =>
    intro a i f N X I hd ha hE1 hf hN h6 h90 h5 h56 h97 hO hX
    obtain ⟨N, rfl⟩ : ∃ z, N = z + 1 := ⟨N - 1, by omega⟩
    obtain ⟨f, rfl⟩ : ∃ z, f = z + 1 := ⟨f - 1, by omega⟩
    have he := hE a (by omega)
    have hgi : ∀ r, r < R → F_Bu_groupOf u (nI (w r)) (nI its) I J = some (nI (kyB its g (w r)), I, J) := fun r hr => c_groupOf hL hi (hw r hr) (hg _ (hw r hr)) h6 h90
    have kl : ∀ r, r < R → kyB its g (w r) < 100000 := fun r hr => by
      have := hg _ (hw r hr)
      unfold kyB
      split
      · exact this
      · split <;> omega
    have head : F_Bu_bundleKind_55 u (N + 1) (nI its) (nI R) (nI a) (nI i) I J = if kyB its g (w i) = kyB its g (w a) then F_Bu_bundleKind_55 u N (nI its) (nI R) (nI a) (nI (i + 1)) I J else F_Bu_bundleKind_94 u (F_Bu_bundleKind_55 u N) (nI its) (nI R) (nI a) (nI i) I J := by
      rw [F_Bu_bundleKind_55, if_neg (by rw [nI_ltI (by omega) (by omega)]; omega), if_neg (by rw [nI_eq (by omega) (by omega)]; omega), vqT (show i < 120 by omega) (by omega), nI_clamp (by omega), h97 i (by omega), hgi i (by omega), bd_s, vqT (show a < 120 by omega) (by omega), nI_clamp (by omega), h97 a (by omega), hgi a (by omega), bd_s, nI_io1, nI_add]
      have k1 := kl i (by omega)
      have k2 := kl a (by omega)
      simp only [cond_true, nI_eq (show kyB its g (w i) < 2 ^ 31 by omega) (show kyB its g (w a) < 2 ^ 31 by omega)]
    rw [head]
    by_cases c : kyB its g (w i) = kyB its g (w a)
    · rw [if_pos c]
      have hlt : i + 1 ≤ E a := by
        by_cases q : i = E a
        · exfalso
          rcases he.2.2.2 with z | z
          · omega
          · rw [← q] at z; exact z c
        · omega
      exact ih a (i + 1) (f + 1) N X I (by omega) (by omega) hlt hf (by omega) h6 h90 h5 h56 h97 hO hX
    · rw [if_neg c]
      have eE : E a = i := by
        by_cases q : i < E a
        · exact absurd (he.2.2.1 i (by omega) q) c
        · omega
      obtain ⟨I1, e1, e2, e3, e4⟩ := c_grp (u := u) (J := J) (its := its) (by omega) hL hR hw hj hf1 hf2 h30 (i - a) a (i - a) u X I (by omega) (by omega) (by omega) hO hX h97 h56
      rw [show a + (i - a) = i by omega] at e1 e3
      have hei := hE i (by omega)
      obtain ⟨I2, f1, f2, f3, f4⟩ := ih i (i + 1) f N _ I1 (by omega) (by omega) (by have := hei.1; omega) (by omega) (by omega) (by rw [e4 89 6 (by unfold kBI; omega)]; exact h6) (fun p hp => by rw [e4 90 p (by unfold kBI; omega)]; exact h90 p hp) (by rw [e4 95 5 (by unfold kBI; omega)]; exact h5) (by rw [e4 95 6 (by unfold kBI; omega)]; exact h56) (fun r hr => by rw [e4 97 r (by unfold kBI; omega)]; exact h97 r hr) e3 e2
      have es : stg its most (fewB its least) w E R (f + 1) a X = stg its most (fewB its least) w E R f i (grp its most (fewB its least) w (i - a) a (i - a) X) := by
        rw [stg, if_pos (by omega), eE]
      refine ⟨I2, ?_, by rw [es]; exact f2, by rw [es]; exact f3, e4.trans f4⟩
      unfold F_Bu_bundleKind_94
      rw [c_bg hi h5, e1, bd_s, nI_io1, nI_add]
      exact f1
theorem OB0 {X : BX} (h : X.1 + cnt (frb X.2.1) L ≤ L) : OB L (WW (frb X.2.1) L) (cnt (frb X.2.1) L) 0 X := ⟨h, fun r _ hr => of_decide_eq_true (WW_h hr).2.1⟩
def wfC (L most least : Nat) (g : Nat → Nat) (I : pm_II) : Prop := I 89 6 = nI L ∧ (∀ p, p < L → I 90 p = nI (g p)) ∧ I 95 5 = nI least ∧ I 95 6 = nI most
theorem wfC.on {I I2 : pm_II} (h : wfC L most least g I) (o : On kCI I I2) : wfC L most least g I2 := by
  obtain ⟨h6, h90, h5, h56⟩ := h
  exact ⟨by rw [o 89 6 (by unfold kCI kBI; omega)]; exact h6, fun p hp => by rw [o 90 p (by unfold kCI kBI; omega)]; exact h90 p hp, by rw [o 95 5 (by unfold kCI kBI; omega)]; exact h5, by rw [o 95 6 (by unfold kCI kBI; omega)]; exact h56⟩
theorem c_kind {its : Nat} {X : BX} {I : pm_II} (hu : 400 ≤ u) (hL : L ≤ 120) (hi : its ≤ 2) (h1 : 1 ≤ least) (h2 : least ≤ most) (h30 : most ≤ 30) (hg : ∀ p, p < L → g p < 100000) (hI : wfC L most least g I) (hO : X.1 + cnt (frb X.2.1) L ≤ L) (hX : CX L X I) : ∃ I2, F_Bu_bundleKind u (nI its) I J = some ((), I2, J) ∧ CX L (stB its most least L g X) I2 ∧ (stB its most least L g X).1 + cnt (frb (stB its most least L g X).2.1) L ≤ L ∧ wfC L most least g I2 ∧ On kCI I I2 := by
  have hc := cnt_le (G := frb X.2.1) L
  obtain ⟨I1, e1, e2, e3⟩ := c_rest (u := u) (J := J) (its := its) hL L 0 u I (by omega) (by omega) hI.1 hX.2.1 (fun r h => absurd h (Nat.not_lt_zero _))
  have o1 : On kCI I I1 := On.mono e3 (fun c k h => Or.inr h)
  have hI1 := hI.on o1
  have hX1 : CX L X I1 := ⟨by rw [e3 95 7 (by omega)]; exact hX.1, fun p hp => by rw [e3 96 p (by omega)]; exact hX.2.1 p hp, fun k hk => by rw [e3 98 k (by omega), e3 99 k (by omega), e3 100 k (by omega)]; exact hX.2.2 k hk⟩
  have e0 : F_Bu_bundleKind u (nI its) I J = F_Bu_bundleKind_55 u u (nI its) (nI (cnt (frb X.2.1) L)) (nI 0) (nI 1) I1 J := e1
  rw [e0]
  by_cases c : cnt (frb X.2.1) L = 0
  · obtain ⟨N, rfl⟩ : ∃ z, u = z + 1 := ⟨u - 1, by omega⟩
    have es : stB its most least L g X = X := by unfold stB; rw [c]; rfl
    rw [es]
    refine ⟨I1, ?_, hX1, hO, hI1, o1⟩
    rw [F_Bu_bundleKind_55, if_pos (by rw [nI_ltI (by omega) (by omega)]; omega)]
  · have hE : ∀ a, a < cnt (frb X.2.1) L → IsE (fun r => kyB its g (WW (frb X.2.1) L r)) (cnt (frb X.2.1) L) a (EE (fun r => kyB its g (WW (frb X.2.1) L r)) (cnt (frb X.2.1) L) a) := fun a ha => EE_h ha
    obtain ⟨I2, f1, f2, f3, f4⟩ := c_k55 (u := u) (J := J) (its := its) (g := g) hu hL (by omega) hi h1 h2 h30 hg (fun r hr => (WW_h hr).1) (fun r t hr ht z => WW_inj hr ht z) hE (cnt (frb X.2.1) L - 1) 0 1 (cnt (frb X.2.1) L) u X I1 (by omega) (by omega) (by have := (hE 0 (by omega)).1; omega) (by omega) (by omega) hI1.1 hI1.2.1 hI1.2.2.1 hI1.2.2.2 e2 (OB0 hO) hX1
    have o2 : On kCI I I2 := o1.trans (On.mono f4 (fun c k h => Or.inl h))
    exact ⟨I2, f1, f2, f3.1, hI.on o2, o2⟩
theorem c_ref20 : ∀ (d p N : Nat) (I : pm_II), p + d = 120 → d < N → (∀ q, q < p → I 96 q = -1) → ∃ I2, F_Bu_refresh_20 u N (nI p) I J = F_Bu_refresh_41 u u 0 I2 J ∧ (∀ q, q < 120 → I2 96 q = -1) ∧ On (fun c _ => c = 96) I I2 := by
  intro d
  induction d with
  | zero =>
    intro p N I hp hN h
    obtain ⟨N, rfl⟩ : ∃ z, N = z + 1 := ⟨N - 1, by omega⟩
    refine ⟨I, ?_, fun q hq => h q (by omega), On.refl _⟩
    rw [F_Bu_refresh_20, show (120 : Int32) = nI 120 from rfl, if_pos (by rw [nI_leI (by omega) (by omega)]; omega)]
  | succ d ih =>
    intro p N I hp hN h
    obtain ⟨N, rfl⟩ : ∃ z, N = z + 1 := ⟨N - 1, by omega⟩
    obtain ⟨I2, i1, i2, i3⟩ := ih (p + 1) N (pm_up I 96 p (-1)) (by omega) (by omega) (fun q hq => by
      rw [ur]
      by_cases c : q = p
      · rw [if_pos ⟨rfl, c⟩]
      · rw [if_neg (fun z => c z.2)]; exact h q (by omega))
    refine ⟨I2, ?_, i2, On.trans (On.up (On.refl _) rfl) i3⟩
    rw [F_Bu_refresh_20, show (120 : Int32) = nI 120 from rfl, if_neg (by rw [nI_leI (by omega) (by omega)]; omega), vqT (show p < 120 by omega) (by omega), nI_clamp (by omega), nI_io1, nI_add]
    exact i1
def kRI (c k : Nat) : Prop := kCI c k ∨ (c = 95 ∧ k = 8)
theorem c_refresh {I : pm_II} (hu : 400 ≤ u) (hL : L ≤ 120) (h1 : 1 ≤ least) (h2 : least ≤ most) (h30 : most ≤ 30) (hg : ∀ p, p < L → g p < 100000) (hI : wfC L most least g I) (hs : ¬ I 95 8 = 0 ∨ CX L (bun L most least g) I) : ∃ I2, F_Bu_refresh u I J = some ((), I2, J) ∧ CX L (bun L most least g) I2 ∧ I2 95 8 = 0 ∧ wfC L most least g I2 ∧ On kRI I I2 := by
  unfold F_Bu_refresh
  by_cases c : I 95 8 = 0
  · rw [if_neg (fun z => z c)]
    exact ⟨I, rfl, hs.elim (fun z => absurd c z) id, c, hI, On.refl _⟩
  · rw [if_pos c]
    obtain ⟨I1, e1, e2, e3⟩ := c_ref20 (u := u) (J := J) 120 0 u (pm_up (pm_up I 95 8 0) 95 7 0) (by omega) (by omega) (fun q hq => absurd hq (Nat.not_lt_zero _))
    have o1 : On kRI I I1 := by
      refine On.trans (On.up (On.up (On.refl _) ?_) ?_) (On.mono e3 (fun c k h => ?_)) <;> (unfold kRI kCI kBI; omega)
    have hI1 : wfC L most least g I1 := by
      obtain ⟨h6, h90, h5, h56⟩ := hI
      exact ⟨by rw [e3 89 6 (by omega)]; exact h6, fun p hp => by rw [e3 90 p (by omega)]; exact h90 p hp, by rw [e3 95 5 (by omega)]; exact h5, by rw [e3 95 6 (by omega)]; exact h56⟩
    have hX1 : CX L X0B I1 := ⟨by rw [e3 95 7 (by omega)]; rfl, fun p hp => e2 p (by omega), fun k hk => absurd hk (Nat.not_lt_zero _)⟩
    have hO : X0B.1 + cnt (frb X0B.2.1) L ≤ L := by
      have := cnt_le (G := frb X0B.2.1) L
      show 0 + _ ≤ L
      omega
    have e0 : F_Bu_refresh_20 u u 0 (pm_up (pm_up I 95 8 0) 95 7 0) J = F_Bu_refresh_41 u u 0 I1 J := e1
    rw [e0]
    obtain ⟨I2, a1, a2, a3, a4, a5⟩ := c_kind (u := u) (J := J) (its := 0) hu hL (by omega) h1 h2 h30 hg hI1 hO hX1
    obtain ⟨I3, b1, b2, b3, b4, b5⟩ := c_kind (u := u) (J := J) (its := 1) hu hL (by omega) h1 h2 h30 hg a4 a3 a2
    obtain ⟨I4, c1, c2, c3, c4, c5⟩ := c_kind (u := u) (J := J) (its := 2) hu hL (by omega) h1 h2 h30 hg b4 b3 b2
    obtain ⟨N, hN⟩ : ∃ z, u = z + 4 := ⟨u - 4, by omega⟩
    have om : ∀ {A B : pm_II}, On kCI A B → On kRI A B := fun o => On.mono o (fun c k h => Or.inl h)
    refine ⟨I4, ?_, c2, ?_, c4, ((o1.trans (om a5)).trans (om b5)).trans (om c5)⟩
    · have e41 : ∀ M (x : Int32) (A : pm_II), ¬ 2 < x → F_Bu_refresh_41 u (M + 1) x A J = bd (F_Bu_bundleKind u x A J) fun _ I49 J49 => F_Bu_refresh_41 u M (x + Int32.ofInt 1) I49 J49 := fun M x A h => by rw [F_Bu_refresh_41, if_neg h]
      have k0 : F_Bu_bundleKind u (0 : Int32) I1 J = some ((), I2, J) := a1
      have k1 : F_Bu_bundleKind u (0 + Int32.ofInt 1) I2 J = some ((), I3, J) := b1
      have k2 : F_Bu_bundleKind u (0 + Int32.ofInt 1 + Int32.ofInt 1) I3 J = some ((), I4, J) := c1
      have eN : F_Bu_refresh_41 u u 0 I1 J = F_Bu_refresh_41 u (N + 4) 0 I1 J := by rw [← hN]
      rw [eN, e41 _ _ _ (by decide), k0, bd_s, e41 _ _ _ (by decide), k1, bd_s, e41 _ _ _ (by decide), k2, bd_s, F_Bu_refresh_41, if_pos (by decide)]
    · rw [c5 95 8 (by unfold kCI kBI; omega), b5 95 8 (by unfold kCI kBI; omega), a5 95 8 (by unfold kCI kBI; omega), e3 95 8 (by omega)]
      rfl
end BunK
