/-! ===== rolls: the model's table ===== -/
section MTab
variable {u : Nat} {J : pm_JJ} {Kn R K : Nat} {wid w : Nat → Nat}
/-- the patterns below a number, in their order -/
def PT (Kn R : Nat) (wid : Nat → Nat) (a p n : Nat) (pt : Nat → Nat) : Prop := n + 1 ≤ p ∧ (∀ i, i < n → 1 ≤ pt i ∧ pt i < p ∧ patb Kn R wid (pt i) a = true) ∧ (∀ i j, i < j → j < n → pt i < pt j) ∧ ∀ c, 1 ≤ c → c < p → patb Kn R wid c a = true → ∃ i, i < n ∧ pt i = c
theorem m_p31 {a : Nat} (hu : 20 ≤ u) (ha : a < 10000) (hB : RB Kn R wid w) : ∀ (d p N n : Nat) (pt : Nat → Nat) (Y : pm_II), p + d = a + 1 → d < N → MA Kn R K wid w Y → PT Kn R wid a p n pt → (∀ i, i < n → Y 130 i = nI (pt i)) → ∃ Z n2 pt2, F_Mo_planned_31 u N (nI a) (nI n) (nI p) Y J = F_Mo_planned_66 u u (nI a) (nI n2) (0 : Int32) Z J ∧ On (fun c _ => c = 130) Y Z ∧ PT Kn R wid a (a + 1) n2 pt2 ∧ ∀ i, i < n2 → Z 130 i = nI (pt2 i) := by
  intro d
  induction d with
  | zero =>
    intro p N n pt Y hp hN hM hP h130
    obtain ⟨N, rfl⟩ : ∃ z, N = z + 1 := ⟨N - 1, by omega⟩
    refine ⟨Y, n, pt, ?_, On.refl _, by rw [show a + 1 = p by omega]; exact hP, h130⟩
    rw [F_Mo_planned_31, if_pos (by rw [nI_ltI (by omega) (by omega)]; omega)]
  | succ d ih =>
    intro p N n pt Y hp hN hM hP h130
    obtain ⟨N, rfl⟩ : ∃ z, N = z + 1 := ⟨N - 1, by omega⟩
    have hst : F_Mo_planned_31 u (N + 1) (nI a) (nI n) (nI p) Y J = cond (patb Kn R wid p a) (F_Mo_planned_31 u N (nI a) (nI (n + 1)) (nI (p + 1)) (pm_up Y 130 n (nI p)) J) (F_Mo_planned_31 u N (nI a) (nI n) (nI (p + 1)) Y J) := by
      have := hP.1
      rw [F_Mo_planned_31, if_neg (by rw [nI_ltI (by omega) (by omega)]; omega), m_pattern (by omega) (by omega) ha hB.1.2 hB.2.1 (fun k hk => (hB.2.2.1 k hk).2.1) hM, bd_s, b2i_ifn, vqT (show n < 10000 by omega) (by omega), nI_clamp (by omega), nI_io1, nI_add, nI_add]
      rfl
    rw [hst]
    cases hc : patb Kn R wid p a with
    | true =>
      obtain ⟨Z, n2, pt2, z1, z2, z3, z4⟩ := ih (p + 1) N (n + 1) (fun i => if i = n then p else pt i) (pm_up Y 130 n (nI p)) (by omega) (by omega) (hM.on (S := fun c _ => c = 130) (On.up (On.refl _) rfl) (fun k _ => by omega) (fun k => by omega) (fun k => by omega)) (by
        obtain ⟨p1, p2, p3, p4⟩ := hP
        refine ⟨by omega, fun i hi => ?_, fun i j hij hj => ?_, fun c c1 c2 c3 => ?_⟩
        · dsimp only
          by_cases q : i = n
          · rw [if_pos q]; exact ⟨by omega, by omega, hc⟩
          · rw [if_neg q]
            have := p2 i (by omega)
            exact ⟨this.1, by omega, this.2.2⟩
        · dsimp only
          rw [if_neg (show ¬ i = n by omega)]
          by_cases q : j = n
          · rw [if_pos q]; exact (p2 i (by omega)).2.1
          · rw [if_neg q]; exact p3 i j hij (by omega)
        · by_cases q : c = p
          · exact ⟨n, by omega, by dsimp only; rw [if_pos rfl, q]⟩
          · obtain ⟨i, i1, i2⟩ := p4 c c1 (by omega) c3
            exact ⟨i, by omega, by dsimp only; rw [if_neg (by omega)]; exact i2⟩) (by
        intro i hi
        rw [ur]
        by_cases q : i = n
        · rw [if_pos ⟨rfl, q⟩, if_pos q]
        · rw [if_neg (fun z => q z.2), if_neg q]
          exact h130 i (by omega))
      exact ⟨Z, n2, pt2, z1, On.trans (On.up (On.refl _) rfl) z2, z3, z4⟩
    | false =>
      refine ih (p + 1) N n pt Y (by omega) (by omega) hM ?_ h130
      obtain ⟨p1, p2, p3, p4⟩ := hP
      refine ⟨by omega, fun i hi => ?_, p3, fun c c1 c2 c3 => ?_⟩
      · have := p2 i hi
        exact ⟨this.1, by omega, this.2.2⟩
      · by_cases q : c = p
        · rw [q, hc] at c3; cases c3
        · exact p4 c c1 (by omega) c3
/-- the model's table below a number -/
def tbm (Kn R : Nat) (wid : Nat → Nat) (a s : Nat) (Y : pm_II) : Prop := ∀ c, c < s → le4 (dg c) (dg a) → ∃ n, n ≤ 16 ∧ Y 129 c = nI n ∧ Fe Kn R wid n (dg c)
theorem m_p101 {a s n n0 : Nat} {pt : Nat → Nat} {K66 : Int32 → Int32 → Int32 → pm_II → pm_JJ → Option (Unit × pm_II × pm_JJ)} (hu : 20 ≤ u) (ha : a < 10000) (hs : s ≤ a) (hw : le4 (dg s) (dg a)) (hP : PT Kn R wid a (a + 1) n pt) (hF : Fe Kn R wid n0 (dg s)) (hn0 : n0 ≤ 16) : ∀ (d i N m : Nat) (Y : pm_II), i + d = n → d < N → (∀ i, i < n → Y 130 i = nI (pt i)) → tbm Kn R wid a s Y → Y 129 s = nI m → n0 ≤ m → m ≤ 99 → (∀ j, j < i → le4 (dg (pt j)) (dg s) → ∀ x, Fe Kn R wid x (sb (dg s) (dg (pt j))) → m ≤ x + 1) → (s = 0 → m = 0) → ∃ Z, F_Mo_planned_101 u K66 N (nI a) (nI n) (nI s) (nI i) Y J = K66 (nI a) (nI n) (nI (s + 1)) Z J ∧ On (fun c k => c = 129 ∧ k = s) Y Z ∧ Z 129 s = nI n0 := by
  have hfin : ∀ (i m : Nat), n0 ≤ m → (s = 0 → m = 0) → (∀ j, j < n → i ≤ j → s < pt j) → (∀ j, j < i → le4 (dg (pt j)) (dg s) → ∀ x, Fe Kn R wid x (sb (dg s) (dg (pt j))) → m ≤ x + 1) → m = n0 := by
    intro i m h1 h0 hi hj
    by_cases c : n0 = 0
    · subst c
      have hz : Cn Kn R wid 0 (dg s) := (hF 0).mpr (Nat.le_refl _)
      have : s = 0 := by
        have e := cod_dg s
        unfold cod at e
        rw [hz 0 (by omega), hz 1 (by omega), hz 2 (by omega), hz 3 (by omega)] at e
        omega
      exact h0 this
    · obtain ⟨k, rfl⟩ : ∃ k, n0 = k + 1 := ⟨n0 - 1, by omega⟩
      obtain ⟨q, q1⟩ := Sel_C.mp ((hF (k + 1)).mpr (Nat.le_refl _))
      have hq9 : ∀ t, t < 4 → q t ≤ 9 := fun t ht => Nat.le_trans (q1.1 t ht) (dg_9 (by omega) t ht)
      have hdq := dg_cod hq9
      have hFn := Fe_next hF q1
      have hq0 : 0 < s4 (dg (cod q)) := by
        apply Classical.byContradiction
        intro z
        have h0 := s4_0 (show s4 (dg (cod q)) = 0 by omega)
        have : Fe Kn R wid k (dg s) := Fe_c (fun t ht => by
          have e := h0 t ht
          rw [hdq t ht] at e
          unfold sb
          omega) hFn
        have := Fe_u this hF
        omega
      have hle : le4 (dg (cod q)) (dg s) := fun t ht => by rw [hdq t ht]; exact q1.1 t ht
      have hcs := dg_le hle
      have hpat : patb Kn R wid (cod q) a = true := pat_iff.mpr ⟨hle.trans hw, hq0, okp_le q1.2.1 (fun t ht => by rw [hdq t ht]; exact Nat.le_refl _)⟩
      have hc1 : 1 ≤ cod q := by
        apply Classical.byContradiction
        intro z
        have e : cod q = 0 := by omega
        rw [e] at hq0
        exact absurd hq0 (by decide)
      obtain ⟨j, j1, j2⟩ := hP.2.2.2 (cod q) hc1 (by omega) hpat
      have hji : j < i := by
        apply Classical.byContradiction
        intro z
        have := hi j j1 (by omega)
        omega
      have := hj j hji (by rw [j2]; exact hle) k (Fe_c (fun t ht => by unfold sb; rw [j2, hdq t ht]) hFn)
      omega
  intro d
  induction d with
  | zero =>
    intro i N m Y hi hN h130 ht h129 hm hm99 hlow hz
    obtain ⟨N, rfl⟩ : ∃ z, N = z + 1 := ⟨N - 1, by omega⟩
    have hn := hP.1
    have e := hfin i m hm hz (fun j j1 j2 => by omega) hlow
    subst e
    refine ⟨Y, ?_, On.refl _, h129⟩
    rw [F_Mo_planned_101, if_pos (by rw [nI_leI (by omega) (by omega)]; omega)]
    unfold F_Mo_planned_185
    rw [nI_io1, nI_add]
  | succ d ih =>
    intro i N m Y hi hN h130 ht h129 hm hm99 hlow hz
    obtain ⟨N, rfl⟩ : ∃ z, N = z + 1 := ⟨N - 1, by omega⟩
    have hn := hP.1
    obtain ⟨p1, p2, p3⟩ := hP.2.1 i (by omega)
    by_cases c : s < pt i
    · have e := hfin i m hm hz (fun j j1 j2 => by
        by_cases q : j = i
        · rw [q]; exact c
        · have := hP.2.2.1 i j (by omega) j1; omega) hlow
      subst e
      refine ⟨Y, ?_, On.refl _, h129⟩
      rw [F_Mo_planned_101, if_neg (by rw [nI_leI (by omega) (by omega)]; omega), vqT (show i < 10000 by omega) (by omega), nI_clamp (by omega), h130 i (by omega), cond_true, if_pos (by rw [nI_ltI (by omega) (by omega)]; exact c)]
      unfold F_Mo_planned_185
      rw [nI_io1, nI_add]
    · have hhead : F_Mo_planned_101 u K66 (N + 1) (nI a) (nI n) (nI s) (nI i) Y J = cond (wt (pt i) s) (if nI m ≤ Y 129 (s - pt i) + 1 then F_Mo_planned_101 u K66 N (nI a) (nI n) (nI s) (nI (i + 1)) Y J else F_Mo_planned_101 u K66 N (nI a) (nI n) (nI s) (nI (i + 1)) (pm_up Y 129 s (Y 129 (s - pt i) + 1)) J) (F_Mo_planned_101 u K66 N (nI a) (nI n) (nI s) (nI (i + 1)) Y J) := by
        rw [F_Mo_planned_101, if_neg (by rw [nI_leI (by omega) (by omega)]; omega), vqT (show i < 10000 by omega) (by omega), nI_clamp (by omega), h130 i (by omega), cond_true, if_neg (by rw [nI_ltI (by omega) (by omega)]; exact c), m_within (by omega) (by omega) (by omega), cond_true, bd_s, b2i_if0, h130 i (by omega), pk_sub (by omega), vqT (show s - pt i < 10000 by omega) (by omega), vqT (show s < 10000 by omega) (by omega), nI_clamp (by omega), nI_clamp (by omega), h129, nI_io1, nI_add]
        rfl
      rw [hhead]
      cases hwt : wt (pt i) s with
      | false =>
        rw [cond_false]
        refine ih (i + 1) N m Y (by omega) (by omega) h130 ht h129 hm hm99 (fun j hj hl x hx => ?_) hz
        by_cases q : j = i
        · subst q
          have := wt_iff.mpr hl
          rw [this] at hwt; cases hwt
        · exact hlow j (by omega) hl x hx
      | true =>
        have hl := wt_iff.mp hwt
        have hds := dg_sub (by omega) hl
        have hla : le4 (dg (s - pt i)) (dg a) := fun k hk => by
          rw [hds k hk]
          exact Nat.le_trans (Nat.sub_le _ _) (hw k hk)
        obtain ⟨x, x1, x2, x3⟩ := ht (s - pt i) (by omega) hla
        have hFx : Fe Kn R wid x (sb (dg s) (dg (pt i))) := Fe_c (fun k hk => (hds k hk).symm) x3
        have hx1 : n0 ≤ x + 1 := (hF (x + 1)).mp ⟨dg (pt i), hl, (pat_iff.mp p3).2.2, (hFx x).mpr (Nat.le_refl _)⟩
        rw [cond_true, x2, nI_1]
        by_cases c2 : m ≤ x + 1
        · rw [if_pos (by rw [nI_leI (by omega) (by omega)]; exact c2)]
          refine ih (i + 1) N m Y (by omega) (by omega) h130 ht h129 hm hm99 (fun j hj hl2 y hy => ?_) hz
          by_cases q : j = i
          · subst q
            rw [Fe_u hy hFx]; exact c2
          · exact hlow j (by omega) hl2 y hy
        · rw [if_neg (by rw [nI_leI (by omega) (by omega)]; exact c2)]
          obtain ⟨Z, z1, z2, z3⟩ := ih (i + 1) N (x + 1) (pm_up Y 129 s (nI (x + 1))) (by omega) (by omega) h130 (fun c hc hl2 => by
            rw [ur, if_neg (by omega)]
            exact ht c hc hl2) (by rw [ur, if_pos ⟨rfl, rfl⟩]) hx1 (by omega) (fun j hj hl2 y hy => by
            by_cases q : j = i
            · subst q
              rw [Fe_u hy hFx]; exact Nat.le_refl _
            · have := hlow j (by omega) hl2 y hy
              omega) (fun z => by have := hz z; omega)
          exact ⟨Z, z1, On.trans (On.up (On.refl _) ⟨rfl, rfl⟩) z2, z3⟩
theorem m_p66 {a n : Nat} {pt : Nat → Nat} (hu : 20000 ≤ u) (ha : a < 10000) (hB : RB Kn R wid w) (haw : ∀ k, k < 4 → dg a k = w k) (hP : PT Kn R wid a (a + 1) n pt) : ∀ (d s N : Nat) (Y : pm_II), s + d = a + 1 → d < N → (∀ i, i < n → Y 130 i = nI (pt i)) → tbm Kn R wid a s Y → ∃ Z, F_Mo_planned_66 u N (nI a) (nI n) (nI s) Y J = F_Mo_planned_198 u u (nI n) (nI a) (pm_up Z 120 15 0) J ∧ On (fun c _ => c = 129) Y Z ∧ tbm Kn R wid a (a + 1) Z := by
  intro d
  have hn := hP.1
  induction d with
  | zero =>
    intro s N Y hs hN h130 ht
    obtain ⟨N, rfl⟩ : ∃ z, N = z + 1 := ⟨N - 1, by omega⟩
    refine ⟨Y, ?_, On.refl _, by rw [show a + 1 = s by omega]; exact ht⟩
    rw [F_Mo_planned_66, if_pos (by rw [nI_ltI (by omega) (by omega)]; omega)]
  | succ d ih =>
    intro s N Y hs hN h130 ht
    obtain ⟨N, rfl⟩ : ∃ z, N = z + 1 := ⟨N - 1, by omega⟩
    have hhead : ∃ m0, (s = 0 → m0 = 0) ∧ (s ≠ 0 → m0 = 99) ∧ F_Mo_planned_66 u (N + 1) (nI a) (nI n) (nI s) Y J = cond (wt s a) (F_Mo_planned_101 u (F_Mo_planned_66 u N) u (nI a) (nI n) (nI s) (nI 0) (pm_up Y 129 s (nI m0)) J) (F_Mo_planned_66 u N (nI a) (nI n) (nI (s + 1)) (pm_up Y 129 s (nI m0)) J) := by
      by_cases c : s = 0
      · refine ⟨0, fun _ => rfl, fun z => absurd c z, ?_⟩
        rw [F_Mo_planned_66, if_neg (by rw [nI_ltI (by omega) (by omega)]; omega), if_neg (by rw [i0_iff (by omega)]; omega)]
        unfold F_Mo_planned_86 F_Mo_planned_185
        rw [vqT (show s < 10000 by omega) (by omega), nI_clamp (by omega), m_within (by omega) (by omega) ha, bd_s, b2i_ifn, nI_io1, nI_add]
        rfl
      · refine ⟨99, fun z => absurd z c, fun _ => rfl, ?_⟩
        rw [F_Mo_planned_66, if_neg (by rw [nI_ltI (by omega) (by omega)]; omega), if_pos (by rw [i0_iff (by omega)]; exact c)]
        unfold F_Mo_planned_86 F_Mo_planned_185
        rw [vqT (show s < 10000 by omega) (by omega), nI_clamp (by omega), m_within (by omega) (by omega) ha, bd_s, b2i_ifn, nI_io1, nI_add]
        rfl
    obtain ⟨m0, hm0, hm1, hhead⟩ := hhead
    rw [hhead]
    have htk : ∀ Z : pm_II, On (fun c k => c = 129 ∧ k = s) Y Z → tbm Kn R wid a s Z := fun Z o c hc hl => by rw [o 129 c (by omega)]; exact ht c hc hl
    have o1 : On (fun c k => c = 129 ∧ k = s) Y (pm_up Y 129 s (nI m0)) := On.up (On.refl _) ⟨rfl, rfl⟩
    cases hwt : wt s a with
    | false =>
      obtain ⟨Z, z1, z2, z3⟩ := ih (s + 1) N (pm_up Y 129 s (nI m0)) (by omega) (by omega) h130 (fun c hc hl => by
        by_cases q : c = s
        · subst q
          have := wt_iff.mpr hl
          rw [this] at hwt; cases hwt
        · exact htk _ o1 c (by omega) hl)
      exact ⟨Z, z1, On.trans (On.up (On.refl _) rfl) z2, z3⟩
    | true =>
      have hl := wt_iff.mp hwt
      have hls : le4 (dg s) w := fun k hk => by rw [← haw k hk]; exact hl k hk
      obtain ⟨n0, f1, f2⟩ := Fe_ex hB.1.1 (fun k hk => (hB.2.2.1 k hk).2.1) (dg s)
      have hn16 := Fe_16 hB hls f2
      have hm : n0 ≤ m0 := by
        by_cases c : s = 0
        · have : s4 (dg s) = 0 := by rw [c]; rfl
          omega
        · rw [hm1 c]; omega
      obtain ⟨Z, z1, z2, z3⟩ := m_p101 (u := u) (J := J) (K66 := F_Mo_planned_66 u N) (by omega) ha (by omega) hl hP f2 hn16 n 0 u m0 (pm_up Y 129 s (nI m0)) (by omega) (by omega) h130 (htk _ o1) (by rw [ur, if_pos ⟨rfl, rfl⟩]) hm (by
        by_cases c : s = 0
        · rw [hm0 c]; omega
        · rw [hm1 c]; omega) (fun j hj => absurd hj (Nat.not_lt_zero _)) hm0
      have o2 := On.trans o1 z2
      obtain ⟨V, v1, v2, v3⟩ := ih (s + 1) N Z (by omega) (by omega) (fun i hi => by rw [o2 130 i (by omega)]; exact h130 i hi) (fun c hc hlc => by
        by_cases q : c = s
        · subst q
          exact ⟨n0, hn16, z3, f2⟩
        · exact htk Z o2 c (by omega) hlc)
      refine ⟨V, ?_, On.trans (o2.mono (fun c k z => z.1)) v2, v3⟩
      rw [cond_true, z1]
      exact v1
end MTab
