/-! ===== rolls: the model's plan ===== -/
section MPl
variable {u : Nat} {J : pm_JJ} {Kn R K : Nat} {wid w : Nat → Nat}
/-- a pattern that leads on, as a number -/
def gd (Kn R : Nat) (wid : Nat → Nat) (n left c : Nat) : Prop := le4 (dg c) (dg left) ∧ Fe Kn R wid n (sb (dg left) (dg c))
theorem m_p208 {a left N0 n : Nat} {pt : Nat → Nat} {K198 : Int32 → Int32 → pm_II → pm_JJ → Option (Unit × pm_II × pm_JJ)} {Y : pm_II} (hu : 20 ≤ u) (ha : a < 10000) (hl : le4 (dg left) (dg a)) (hP : PT Kn R wid a (a + 1) N0 pt) (hF : Fe Kn R wid (n + 1) (dg left)) (hn : n + 1 ≤ 16) (h130 : ∀ i, i < N0 → Y 130 i = nI (pt i)) (ht : tbm Kn R wid a (a + 1) Y) : ∀ (d i N bst : Nat), i + d = N0 → d < N → (bst = 0 ∨ (bst < 10000 ∧ patb Kn R wid bst a = true ∧ gd Kn R wid n left bst)) → (∀ j, j < i → gd Kn R wid n left (pt j) → pt j ≤ bst) → ∃ b2, F_Mo_planned_208 u K198 N (nI N0) (nI left) (nI bst) (nI i) Y J = F_Mo_planned_284 u K198 (nI N0) (nI left) (nI b2) Y J ∧ (b2 = 0 ∨ (b2 < 10000 ∧ patb Kn R wid b2 a = true ∧ gd Kn R wid n left b2)) ∧ ∀ j, j < N0 → gd Kn R wid n left (pt j) → pt j ≤ b2 := by
  intro d
  have hN0 := hP.1
  have hla := dg_le hl
  obtain ⟨nl, l1, l2, l3⟩ := ht left (by omega) hl
  have en := Fe_u l3 hF
  subst en
  have e1 : nI (n + 1) - (1 : Int32) = nI n := by rw [nl_1, pk_sub (by omega)]; rfl
  induction d with
  | zero =>
    intro i N bst hi hN hb hlow
    obtain ⟨N, rfl⟩ : ∃ z, N = z + 1 := ⟨N - 1, by omega⟩
    refine ⟨bst, ?_, hb, fun j hj => hlow j (by omega)⟩
    rw [F_Mo_planned_208, if_pos (by rw [nI_leI (by omega) (by omega)]; omega)]
  | succ d ih =>
    intro i N bst hi hN hb hlow
    obtain ⟨N, rfl⟩ : ∃ z, N = z + 1 := ⟨N - 1, by omega⟩
    obtain ⟨p1, p2, p3⟩ := hP.2.1 i (by omega)
    by_cases c : left < pt i
    · refine ⟨bst, ?_, hb, fun j hj hg => ?_⟩
      · rw [F_Mo_planned_208, if_neg (by rw [nI_leI (by omega) (by omega)]; omega), vqT (show i < 10000 by omega) (by omega), nI_clamp (by omega), h130 i (by omega), cond_true, if_pos (by rw [nI_ltI (by omega) (by omega)]; exact c)]
      · by_cases q : j < i
        · exact hlow j q hg
        · have h1 := dg_le hg.1
          have h2 : pt i ≤ pt j := by
            by_cases q2 : j = i
            · rw [q2]; exact Nat.le_refl _
            · exact Nat.le_of_lt (hP.2.2.1 i j (by omega) hj)
          omega
    · have hhead : F_Mo_planned_208 u K198 (N + 1) (nI N0) (nI left) (nI bst) (nI i) Y J = cond (wt (pt i) left) (if ¬ Y 129 (left - pt i) = nI n then F_Mo_planned_208 u K198 N (nI N0) (nI left) (nI bst) (nI (i + 1)) Y J else F_Mo_planned_208 u K198 N (nI N0) (nI left) (nI (pt i)) (nI (i + 1)) Y J) (F_Mo_planned_208 u K198 N (nI N0) (nI left) (nI bst) (nI (i + 1)) Y J) := by
        rw [F_Mo_planned_208, if_neg (by rw [nI_leI (by omega) (by omega)]; omega), vqT (show i < 10000 by omega) (by omega), nI_clamp (by omega), h130 i (by omega), cond_true, if_neg (by rw [nI_ltI (by omega) (by omega)]; exact c), m_within (by omega) (by omega) (by omega), cond_true, bd_s, b2i_if0, h130 i (by omega), pk_sub (by omega), vqT (show left - pt i < 10000 by omega) (by omega), vqT (show left < 10000 by omega) (by omega), nI_clamp (by omega), nI_clamp (by omega), l2, e1, nI_io1, nI_add]
        rfl
      rw [hhead]
      cases hwt : wt (pt i) left with
      | false =>
        rw [cond_false]
        refine ih (i + 1) N bst (by omega) (by omega) hb (fun j hj hg => ?_)
        by_cases q : j = i
        · subst q
          have := wt_iff.mpr hg.1
          rw [this] at hwt; cases hwt
        · exact hlow j (by omega) hg
      | true =>
        have hli := wt_iff.mp hwt
        have hds := dg_sub (by omega) hli
        have hlai : le4 (dg (left - pt i)) (dg a) := fun k hk => by
          rw [hds k hk]
          exact Nat.le_trans (Nat.sub_le _ _) (hl k hk)
        obtain ⟨x, x1, x2, x3⟩ := ht (left - pt i) (by omega) hlai
        have hFx : Fe Kn R wid x (sb (dg left) (dg (pt i))) := Fe_c (fun k hk => (hds k hk).symm) x3
        rw [cond_true, x2]
        by_cases c2 : x = n
        · rw [if_neg (by rw [c2]; exact fun z => z rfl)]
          subst c2
          refine ih (i + 1) N (pt i) (by omega) (by omega) (Or.inr ⟨by omega, p3, hli, hFx⟩) (fun j hj hg => ?_)
          by_cases q : j = i
          · rw [q]; exact Nat.le_refl _
          · exact Nat.le_of_lt (hP.2.2.1 j i (by omega) (by omega))
        · rw [if_pos (by rw [nI_eq (by omega) (by omega)]; exact c2)]
          refine ih (i + 1) N bst (by omega) (by omega) hb (fun j hj hg => ?_)
          by_cases q : j = i
          · subst q
            exact absurd (Fe_u hFx hg.2) c2
          · exact hlow j (by omega) hg
/-- what is picked is the greatest -/
theorem gd_sel {a left n N0 b2 : Nat} {pt : Nat → Nat} (ha : a < 10000) (hl : le4 (dg left) (dg a)) (hP : PT Kn R wid a (a + 1) N0 pt) (hF : Fe Kn R wid (n + 1) (dg left)) (hb : b2 = 0 ∨ (b2 < 10000 ∧ patb Kn R wid b2 a = true ∧ gd Kn R wid n left b2)) (hmax : ∀ j, j < N0 → gd Kn R wid n left (pt j) → pt j ≤ b2) : b2 < 10000 ∧ Sel Kn R wid n (dg left) (dg b2) ∧ ∀ q2, Sel Kn R wid n (dg left) q2 → cod q2 ≤ cod (dg b2) := by
  have hla := dg_le hl
  have key : ∀ q, Sel Kn R wid n (dg left) q → 1 ≤ cod q ∧ cod q ≤ b2 := by
    intro q q1
    have hq9 : ∀ t, t < 4 → q t ≤ 9 := fun t ht => Nat.le_trans (q1.1 t ht) (dg_9 (by omega) t ht)
    have hdq := dg_cod hq9
    have hFn := Fe_next hF q1
    have hle : le4 (dg (cod q)) (dg left) := fun t ht => by rw [hdq t ht]; exact q1.1 t ht
    have hcs := dg_le hle
    have hq0 : 0 < s4 (dg (cod q)) := by
      apply Classical.byContradiction
      intro z
      have h0 := s4_0 (show s4 (dg (cod q)) = 0 by omega)
      have : Fe Kn R wid n (dg left) := Fe_c (fun t ht => by
        have e := h0 t ht
        rw [hdq t ht] at e
        unfold sb
        omega) hFn
      have := Fe_u this hF
      omega
    have hc1 : 1 ≤ cod q := by
      apply Classical.byContradiction
      intro z
      have e : cod q = 0 := by omega
      rw [e] at hq0
      exact absurd hq0 (by decide)
    have hpat : patb Kn R wid (cod q) a = true := pat_iff.mpr ⟨hle.trans hl, hq0, okp_le q1.2.1 (fun t ht => by rw [hdq t ht]; exact Nat.le_refl _)⟩
    obtain ⟨j, j1, j2⟩ := hP.2.2.2 (cod q) hc1 (by omega) hpat
    have := hmax j j1 (by rw [j2]; exact ⟨hle, Fe_c (fun t ht => by unfold sb; rw [hdq t ht]) hFn⟩)
    rw [j2] at this
    exact ⟨hc1, this⟩
  obtain ⟨q, q1⟩ := Sel_C.mp ((hF (n + 1)).mpr (Nat.le_refl _))
  have hk := key q q1
  rcases hb with hb | ⟨b1, b3, b4⟩
  · omega
  · exact ⟨b1, ⟨b4.1, (pat_iff.mp b3).2.2, (b4.2 n).mpr (Nat.le_refl _)⟩, fun q2 hq2 => by rw [cod_dg]; exact (key q2 hq2).2⟩
def kQm (c k : Nat) : Prop := c = 127 ∨ (c = 120 ∧ k = 15)
theorem m_p287 {K198 : Int32 → Int32 → pm_II → pm_JJ → Option (Unit × pm_II × pm_JJ)} {x2 : Int32} {left c P : Nat} {Y : pm_II} (hu : 10 ≤ u) (hc : c < 10000) (hcl : c ≤ left) (hP : P < 16) (h15 : Y 120 15 = nI P) : ∃ Z, F_Mo_planned_284 u K198 x2 (nI left) (nI c) Y J = K198 x2 (nI (left - c)) Z J ∧ On kQm Y Z ∧ Z 120 15 = nI (P + 1) ∧ (∀ k, k < 4 → Z 127 (4 * P + k) = nI (dg c k)) ∧ ∀ i, i < 4 * P → Z 127 i = Y 127 i := by
  have step : ∀ (N k : Nat) (Z : pm_II), k < 4 → Z 120 15 = nI P → F_Mo_planned_287 u K198 (N + 1) x2 (nI left) (nI c) (nI k) Z J = F_Mo_planned_287 u K198 N x2 (nI left) (nI c) (nI (k + 1)) (pm_up Z 127 (4 * P + k) (nI (dg c k))) J := by
    intro N k Z hk hz
    rw [F_Mo_planned_287, show (4 : Int32) = nI 4 from rfl, if_neg (by rw [nI_leI (by omega) (by omega)]; omega), m_digit hc hk, bd_s, hz, pk_mul, nI_add, vqT (show 4 * P + k < 64 by omega) (by omega), nI_clamp (by omega), nI_io1, nI_add]
    rfl
  obtain ⟨N, rfl⟩ : ∃ z, u = z + 5 := ⟨u - 5, by omega⟩
  have t0 := step (N + 4) 0 Y (by omega) h15
  have t1 := step (N + 3) 1 (pm_up Y 127 (4 * P + 0) (nI (dg c 0))) (by omega) h15
  have t2 := step (N + 2) 2 (pm_up (pm_up Y 127 (4 * P + 0) (nI (dg c 0))) 127 (4 * P + 1) (nI (dg c 1))) (by omega) h15
  have t3 := step (N + 1) 3 (pm_up (pm_up (pm_up Y 127 (4 * P + 0) (nI (dg c 0))) 127 (4 * P + 1) (nI (dg c 1))) 127 (4 * P + 2) (nI (dg c 2))) (by omega) h15
  refine ⟨pm_up (pm_up (pm_up (pm_up (pm_up Y 127 (4 * P + 0) (nI (dg c 0))) 127 (4 * P + 1) (nI (dg c 1))) 127 (4 * P + 2) (nI (dg c 2))) 127 (4 * P + 3) (nI (dg c 3))) 120 15 (nI (P + 1)), ?_, ?_, rfl, fun k hk => ?_, fun i hi => ?_⟩
  · unfold F_Mo_planned_284
    refine (t0.trans (t1.trans (t2.trans t3))).trans ?_
    have h15' : (pm_up (pm_up (pm_up (pm_up Y 127 (4 * P + 0) (nI (dg c 0))) 127 (4 * P + 1) (nI (dg c 1))) 127 (4 * P + 2) (nI (dg c 2))) 127 (4 * P + 3) (nI (dg c 3))) 120 15 = nI P := h15
    rw [F_Mo_planned_287, if_pos (by decide), pk_sub hcl, h15', nI_1]
  · refine On.up (On.up (On.up (On.up (On.up (On.refl _) ?_) ?_) ?_) ?_) ?_ <;> (unfold kQm; omega)
  · simp only [ur]
    rcases k_4 hk with rfl | rfl | rfl | rfl <;> simp
  · simp only [ur]
    have a0 : ¬ i = 4 * P + 0 := by omega
    have a1 : ¬ i = 4 * P + 1 := by omega
    have a2 : ¬ i = 4 * P + 2 := by omega
    have a3 : ¬ i = 4 * P + 3 := by omega
    simp [a1, a2, a3]
    intro z
    omega
theorem m_p198 {a N0 : Nat} {pt : Nat → Nat} (hu : 20000 ≤ u) (ha : a < 10000) (hB : RB Kn R wid w) (haw : ∀ k, k < 4 → dg a k = w k) (hP : PT Kn R wid a (a + 1) N0 pt) : ∀ (n P N left : Nat) (Y : pm_II), n < N → P + n ≤ 16 → le4 (dg left) (dg a) → Fe Kn R wid n (dg left) → (∀ i, i < N0 → Y 130 i = nI (pt i)) → tbm Kn R wid a (a + 1) Y → Y 120 15 = nI P → ∃ Z pl, F_Mo_planned_198 u N (nI N0) (nI left) Y J = some ((), Z, J) ∧ On kQm Y Z ∧ Z 120 15 = nI (P + n) ∧ Pl Kn R wid pl n (dg left) P ∧ (∀ i, P ≤ i → i < P + n → ∀ k, k < 4 → Z 127 (4 * i + k) = nI (pl i k)) ∧ ∀ i, i < 4 * P → Z 127 i = Y 127 i := by
  intro n
  have hN0 := hP.1
  induction n with
  | zero =>
    intro P N left Y hN hP16 hl hF h130 ht h15
    obtain ⟨N, rfl⟩ : ∃ z, N = z + 1 := ⟨N - 1, by omega⟩
    have hz : Cn Kn R wid 0 (dg left) := (hF 0).mpr (Nat.le_refl _)
    have : left = 0 := by
      have e := cod_dg left
      unfold cod at e
      rw [hz 0 (by omega), hz 1 (by omega), hz 2 (by omega), hz 3 (by omega)] at e
      omega
    refine ⟨Y, fun _ _ => 0, ?_, On.refl _, h15, trivial, fun i h1 h2 => by omega, fun i _ => rfl⟩
    rw [F_Mo_planned_198, this, if_pos (by decide)]
  | succ n ih =>
    intro P N left Y hN hP16 hl hF h130 ht h15
    obtain ⟨N, rfl⟩ : ∃ z, N = z + 1 := ⟨N - 1, by omega⟩
    have hla := dg_le hl
    have hpos : ¬ left = 0 := fun z => by
      have h0 : Cn Kn R wid 0 (dg left) := by
        rw [z]
        exact s4_0 (show s4 (dg 0) = 0 from rfl)
      have := (hF 0).mp h0
      omega
    obtain ⟨b2, r1, r2, r3⟩ := m_p208 (u := u) (J := J) (K198 := F_Mo_planned_198 u N) (Y := Y) (by omega) ha hl hP hF (by omega) h130 ht N0 0 u 0 (by omega) (by omega) (Or.inl rfl) (fun j hj => absurd hj (Nat.not_lt_zero _))
    obtain ⟨g1, g2, g3⟩ := gd_sel ha hl hP hF r2 r3
    have hbl := dg_le g2.1
    obtain ⟨Z, z1, z2, z3, z4, z5⟩ := m_p287 (u := u) (J := J) (K198 := F_Mo_planned_198 u N) (x2 := nI N0) (by omega) g1 hbl (show P < 16 by omega) h15
    have hds := dg_sub (show left < 10000 by omega) g2.1
    have hFn := Fe_next hF g2
    obtain ⟨V, pl, v1, v2, v3, v4, v5, v6⟩ := ih (P + 1) N (left - b2) Z (by omega) (by omega) (fun k hk => by rw [hds k hk]; exact Nat.le_trans (Nat.sub_le _ _) (hl k hk)) (Fe_c hds hFn) (fun i hi => by rw [z2 130 i (by unfold kQm; omega)]; exact h130 i hi) (fun c hc hlc => by rw [z2 129 c (by unfold kQm; omega)]; exact ht c hc hlc) z3
    refine ⟨V, fun i => if i = P then dg b2 else pl i, ?_, On.trans z2 v2, ?_, ⟨?_, ?_, ?_⟩, fun i h1 h2 k hk => ?_, fun i hi => ?_⟩
    · rw [F_Mo_planned_198, if_neg (by rw [← nI_0, nI_leI (by omega) (by omega)]; omega)]
      refine (r1.trans z1).trans v1
    · rw [v3, show P + 1 + n = P + (n + 1) by omega]
    · dsimp only
      rw [if_pos rfl]; exact g2
    · dsimp only
      rw [if_pos rfl]; exact g3
    · dsimp only
      rw [if_pos rfl]
      have hv4 : Pl Kn R wid pl n (sb (dg left) (dg b2)) (P + 1) := by
        have hcv : ∀ (n : Nat) (v v2 : Nat → Nat) (i : Nat), (∀ k, k < 4 → v2 k = v k) → Pl Kn R wid pl n v i → Pl Kn R wid pl n v2 i := by
          intro n
          induction n with
          | zero => intro v v2 i _ _; trivial
          | succ n ihn =>
            intro v v2 i hv hp
            unfold Pl at hp ⊢
            exact ⟨Sel_c hv hp.1, fun q2 hq2 => hp.2.1 q2 (Sel_c (fun k hk => (hv k hk).symm) hq2), ihn _ _ _ (fun k hk => by unfold sb; rw [hv k hk]) hp.2.2⟩
        exact hcv n _ _ _ (fun k hk => (hds k hk).symm) v4
      exact Pl_c n _ _ (fun j hj => by rw [if_neg (by omega)]) hv4
    · dsimp only
      by_cases c : i = P
      · rw [if_pos c, c, v6 _ (by omega)]
        exact z4 k hk
      · rw [if_neg c]
        exact v5 i (by omega) (by omega) k hk
    · rw [v6 i (by omega), z5 i hi]
def kMp (c k : Nat) : Prop := c = 127 ∨ c = 129 ∨ c = 130 ∨ (c = 120 ∧ k = 15)
theorem m_planned {Y : pm_II} (hu : 20000 ≤ u) (hB : RB Kn R wid w) (hM : MA Kn R K wid w Y) : ∃ Z n pl, F_Mo_planned u Y J = some ((), Z, J) ∧ On kMp Y Z ∧ n ≤ 16 ∧ Fe Kn R wid n w ∧ Z 120 15 = nI n ∧ (∃ v, (∀ k, k < 4 → v k = w k) ∧ Pl Kn R wid pl n v 0) ∧ ∀ i, i < n → ∀ k, k < 4 → Z 127 (4 * i + k) = nI (pl i k) := by
  have h9 : ∀ k, k < 4 → w k ≤ 9 := fun k hk => (hB.2.2.1 k hk).1
  have hdw := dg_cod h9
  have ha : cod w < 10000 := by
    have a0 := h9 0 (by omega)
    have a1 := h9 1 (by omega)
    have a2 := h9 2 (by omega)
    have a3 := h9 3 (by omega)
    unfold cod
    omega
  have step : ∀ (N k x : Nat), k < 4 → F_Mo_planned_4 u (N + 1) (nI x) (nI k) Y J = F_Mo_planned_4 u N (nI (10 * x + w k)) (nI (k + 1)) Y J := by
    intro N k x hk
    rw [F_Mo_planned_4, show (4 : Int32) = nI 4 from rfl, if_neg (by rw [nI_leI (by omega) (by omega)]; omega), vqT hk (by omega), nI_clamp (by omega), hM.2.2.2 k hk, show (10 : Int32) = nI 10 from rfl, pk_mul, nI_add, nI_io1, nI_add]
    rfl
  obtain ⟨N, hN⟩ : ∃ z, u = z + 5 := ⟨u - 5, by omega⟩
  obtain ⟨Z, N0, pt, z1, z2, z3, z4⟩ := m_p31 (u := u) (J := J) (K := K) (w := w) (a := cod w) (by omega) ha hB (cod w) 1 u 0 (fun _ => 0) Y (by omega) (by omega) hM ⟨by omega, fun i hi => by omega, fun i j _ hj => by omega, fun c c1 c2 _ => by omega⟩ (fun i hi => by omega)
  obtain ⟨V, v1, v2, v3⟩ := m_p66 (u := u) (J := J) (w := w) hu ha hB hdw z3 (cod w + 1) 0 u Z (by omega) (by omega) z4 (fun c hc => by omega)
  obtain ⟨n, n1, n2⟩ := Fe_ex hB.1.1 (fun k hk => (hB.2.2.1 k hk).2.1) w
  have hs := hB.2.2.2
  have o1 : On (fun c _ => c = 129) Z V := v2
  obtain ⟨Q, pl, q1, q2, q3, q4, q5, q6⟩ := m_p198 (u := u) (J := J) (w := w) hu ha hB hdw z3 n 0 u (cod w) (pm_up V 120 15 0) (by omega) (by omega) (le4.refl _) (Fe_c hdw n2) (fun i hi => by rw [ur, if_neg (by omega), o1 130 i (by omega)]; exact z4 i hi) (fun c hc hl => by rw [ur, if_neg (by omega)]; exact v3 c hc hl) rfl
  refine ⟨Q, n, pl, ?_, ?_, by omega, n2, by rw [q3, Nat.zero_add], ⟨dg (cod w), hdw, q4⟩, fun i hi k hk => q5 i (Nat.zero_le _) (by omega) k hk⟩
  · unfold F_Mo_planned
    have e : F_Mo_planned_4 u u (0 : Int32) (0 : Int32) Y J = F_Mo_planned_4 u (N + 4 + 1) (nI 0) (nI 0) Y J := by rw [hN]; rfl
    have t0 := step (N + 4) 0 0 (by omega)
    have t1 := step (N + 3) 1 (10 * 0 + w 0) (by omega)
    have t2 := step (N + 2) 2 (10 * (10 * 0 + w 0) + w 1) (by omega)
    have t3 := step (N + 1) 3 (10 * (10 * (10 * 0 + w 0) + w 1) + w 2) (by omega)
    rw [e]
    refine (t0.trans (t1.trans (t2.trans t3))).trans ?_
    have ec : 10 * (10 * (10 * (10 * 0 + w 0) + w 1) + w 2) + w 3 = cod w := by unfold cod; omega
    rw [ec, F_Mo_planned_4, if_pos (by decide)]
    exact (z1.trans v1).trans q1
  · exact On.trans (On.trans (On.trans (z2.mono (fun c k z => Or.inr (Or.inr (Or.inl z)))) (v2.mono (fun c k z => Or.inr (Or.inl z)))) (On.up (On.refl _) (Or.inr (Or.inr (Or.inr ⟨rfl, rfl⟩))))) (q2.mono (fun c k z => by unfold kQm at z; unfold kMp; omega))
end MPl
