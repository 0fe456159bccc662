/-! ===== type: a line put back, by the model ===== -/
/-- the stock with the letters of a line put back -/
def stk (S : Nat → Int32) (x : Nat → Nat) : Nat → Nat → Int32
  | 0 => S
  | k + 1 => fun j => if j + 1 = x k then stk S x k j + 1 else stk S x k j
/-- a row of lines is another's -/
def RE (Z : pm_II) (q : Nat) (Y : pm_II) (r : Nat) : Prop := (∀ k, k < 160 → Z 149 (160 * q + k) = Y 149 (160 * r + k)) ∧ (∀ k, k < 12 → Z 153 (12 * q + k) = Y 153 (12 * r + k)) ∧ Z 150 q = Y 150 r ∧ Z 151 q = Y 151 r ∧ Z 152 q = Y 152 r
section Dist
variable {u : Nat} {J : pm_JJ}
theorem m_d159 {K : Int32 → pm_II → pm_JJ → Option (Int32 × pm_II × pm_JJ)} {r : Nat} (hr : r ≤ 14) : ∀ (d k N : Nat) (Y : pm_II), k + d = 160 → d < N → ∃ Z, F_Mo_distribute_159 u K N (nI r) (nI k) Y J = K (nI (r + 1)) Z J ∧ On (fun c _ => c = 149) Y Z ∧ ∀ j, Z 149 j = if 160 * r + k ≤ j ∧ j < 160 * r + 160 then Y 149 (j + 160) else Y 149 j := by
  intro d
  induction d with
  | zero =>
    intro k N Y hk hN
    obtain ⟨N, rfl⟩ : ∃ z, N = z + 1 := ⟨N - 1, by omega⟩
    obtain rfl : k = 160 := by omega
    exact ⟨Y, by rw [F_Mo_distribute_159, if_pos (by decide), nI_io1, nI_add], On.refl _, fun j => by rw [if_neg (by omega)]⟩
  | succ d ih =>
    intro k N Y hk hN
    obtain ⟨N, rfl⟩ : ∃ z, N = z + 1 := ⟨N - 1, by omega⟩
    obtain ⟨Z, z1, z2, z3⟩ := ih (k + 1) N (pm_up Y 149 (160 * r + k) (Y 149 (160 * r + 160 + k))) (by omega) (by omega)
    refine ⟨Z, ?_, On.trans (On.up (On.refl _) rfl) z2, fun j => ?_⟩
    · rw [F_Mo_distribute_159, show (160 : Int32) = nI 160 from rfl, if_neg (by rw [nI_leI (by omega) (by omega)]; omega), pk_mul, nI_add, nI_add, nI_add, vqT (show 160 * r + 160 + k < 2624 by omega) (by omega), vqT (show 160 * r + k < 2624 by omega) (by omega), nI_clamp (by omega), nI_clamp (by omega), nI_io1, nI_add]
      exact z1
    · rw [z3 j]
      simp only [ur]
      by_cases q : j = 160 * r + k
      · have a1 : ¬ (160 * r + (k + 1) ≤ j ∧ j < 160 * r + 160) := by omega
        have a2 : 160 * r + k ≤ j ∧ j < 160 * r + 160 := by omega
        rw [if_neg a1, if_pos a2, if_pos ⟨trivial, q⟩, q, show 160 * r + 160 + k = 160 * r + k + 160 by omega]
      · have e : (160 * r + (k + 1) ≤ j ∧ j < 160 * r + 160) ↔ (160 * r + k ≤ j ∧ j < 160 * r + 160) := by omega
        by_cases q2 : 160 * r + (k + 1) ≤ j ∧ j < 160 * r + 160
        · rw [if_pos q2, if_pos (e.mp q2), if_neg (by omega)]
        · rw [if_neg q2, if_neg (fun z => q2 (e.mpr z)), if_neg (fun z => q z.2)]
theorem m_d120 {K : Int32 → pm_II → pm_JJ → Option (Int32 × pm_II × pm_JJ)} {r : Nat} (hu : 200 ≤ u) (hr : r ≤ 14) : ∀ (d k N : Nat) (Y : pm_II), k + d = 12 → d < N → ∃ Z, F_Mo_distribute_120 u K N (nI r) (nI k) Y J = K (nI (r + 1)) Z J ∧ On (fun c _ => c = 149 ∨ c = 153) Y Z ∧ (∀ j, Z 149 j = if 160 * r ≤ j ∧ j < 160 * r + 160 then Y 149 (j + 160) else Y 149 j) ∧ ∀ j, Z 153 j = if 12 * r + k ≤ j ∧ j < 12 * r + 12 then Y 153 (j + 12) else Y 153 j := by
  intro d
  induction d with
  | zero =>
    intro k N Y hk hN
    obtain ⟨N, rfl⟩ : ∃ z, N = z + 1 := ⟨N - 1, by omega⟩
    obtain rfl : k = 12 := by omega
    obtain ⟨Z, z1, z2, z3⟩ := m_d159 (u := u) (J := J) (K := K) hr 160 0 u Y (by omega) (by omega)
    refine ⟨Z, ?_, z2.mono (fun c k z => Or.inl z), z3, fun j => ?_⟩
    · rw [F_Mo_distribute_120, if_pos (by decide)]
      exact z1
    · rw [z2 153 j (by omega), if_neg (by omega)]
  | succ d ih =>
    intro k N Y hk hN
    obtain ⟨N, rfl⟩ : ∃ z, N = z + 1 := ⟨N - 1, by omega⟩
    obtain ⟨Z, z1, z2, z3, z4⟩ := ih (k + 1) N (pm_up Y 153 (12 * r + k) (Y 153 (12 * r + 12 + k))) (by omega) (by omega)
    refine ⟨Z, ?_, On.trans (On.up (On.refl _) (Or.inr rfl)) z2, fun j => ?_, fun j => ?_⟩
    · rw [F_Mo_distribute_120, show (12 : Int32) = nI 12 from rfl, if_neg (by rw [nI_leI (by omega) (by omega)]; omega), pk_mul, nI_add, nI_add, nI_add, vqT (show 12 * r + 12 + k < 204 by omega) (by omega), vqT (show 12 * r + k < 204 by omega) (by omega), nI_clamp (by omega), nI_clamp (by omega), nI_io1, nI_add]
      exact z1
    · rw [z3 j]
      simp [ur]
    · rw [z4 j]
      simp only [ur]
      by_cases q : j = 12 * r + k
      · have a1 : ¬ (12 * r + (k + 1) ≤ j ∧ j < 12 * r + 12) := by omega
        have a2 : 12 * r + k ≤ j ∧ j < 12 * r + 12 := by omega
        rw [if_neg a1, if_pos a2, if_pos ⟨trivial, q⟩, q, show 12 * r + 12 + k = 12 * r + k + 12 by omega]
      · have e : (12 * r + (k + 1) ≤ j ∧ j < 12 * r + 12) ↔ (12 * r + k ≤ j ∧ j < 12 * r + 12) := by omega
        by_cases q2 : 12 * r + (k + 1) ≤ j ∧ j < 12 * r + 12
        · rw [if_pos q2, if_pos (e.mp q2), if_neg (by omega)]
        · rw [if_neg q2, if_neg (fun z => q2 (e.mpr z)), if_neg (fun z => q z.2)]
def kD (c k : Nat) : Prop := (149 ≤ c ∧ c ≤ 153) ∨ (c = 120 ∧ k = 56)
theorem RE.trans {A B C : pm_II} {p q r : Nat} (h : RE A p B q) (h2 : RE B q C r) : RE A p C r := ⟨fun k hk => (h.1 k hk).trans (h2.1 k hk), fun k hk => (h.2.1 k hk).trans (h2.2.1 k hk), h.2.2.1.trans h2.2.2.1, h.2.2.2.1.trans h2.2.2.2.1, h.2.2.2.2.trans h2.2.2.2.2⟩
theorem m_d66 {g : Nat} (hu : 200 ≤ u) (hg : g ≤ 16) : ∀ (d r N : Nat) (Y : pm_II), r + d + 1 = g → d < N → Y 120 56 = nI g → ∃ Z, F_Mo_distribute_66 u N (nI r) Y J = some (nI (g - 1), Z, J) ∧ On kD Y Z ∧ Z 120 56 = nI (g - 1) ∧ ∀ q, (q < r → RE Z q Y q) ∧ (r ≤ q → q + 1 < g → RE Z q Y (q + 1)) := by
  intro d
  induction d with
  | zero =>
    intro r N Y hr hN h56
    obtain ⟨N, rfl⟩ : ∃ z, N = z + 1 := ⟨N - 1, by omega⟩
    refine ⟨pm_up Y 120 56 (nI (g - 1)), ?_, On.up (On.refl _) (Or.inr ⟨rfl, rfl⟩), rfl, fun q => ⟨fun _ => ⟨fun _ _ => rfl, fun _ _ => rfl, rfl, rfl, rfl⟩, fun h1 h2 => by omega⟩⟩
    rw [F_Mo_distribute_66, h56, nI_1, if_pos (by rw [nI_leI (by omega) (by omega)]; omega), nl_1, pk_sub (by omega)]
  | succ d ih =>
    intro r N Y hr hN h56
    obtain ⟨N, rfl⟩ : ∃ z, N = z + 1 := ⟨N - 1, by omega⟩
    obtain ⟨Z, z1, z2, z3, z4⟩ := m_d120 (u := u) (J := J) (K := F_Mo_distribute_66 u N) (r := r) hu (by omega) 12 0 u (pm_up (pm_up (pm_up Y 150 r (Y 150 (r + 1))) 151 r (Y 151 (r + 1))) 152 r (Y 152 (r + 1))) (by omega) (by omega)
    have oZ : On kD Y Z := On.trans (On.up (On.up (On.up (On.refl _) (Or.inl (by omega))) (Or.inl (by omega))) (Or.inl (by omega))) (z2.mono (fun c k z => Or.inl (by omega)))
    have h56Z : Z 120 56 = nI g := by rw [z2 120 56 (by omega)]; exact h56
    obtain ⟨V, v1, v2, v3, v4⟩ := ih (r + 1) N Z (by omega) (by omega) h56Z
    have hlo : ∀ q, q ≠ r → RE Z q Y q := fun q hq => by
      refine ⟨fun k hk => ?_, fun k hk => ?_, ?_, ?_, ?_⟩
      · rw [z3, if_neg (by omega)]; rfl
      · rw [z4, if_neg (by omega)]; rfl
      · rw [z2 _ _ (by omega)]; simp [ur, hq]
      · rw [z2 _ _ (by omega)]; simp [ur, hq]
      · rw [z2 _ _ (by omega)]; simp [ur, hq]
    have hat : RE Z r Y (r + 1) := by
      refine ⟨fun k hk => ?_, fun k hk => ?_, ?_, ?_, ?_⟩
      · rw [z3, if_pos (by omega), show 160 * (r + 1) + k = 160 * r + k + 160 by omega]; rfl
      · rw [z4, if_pos (by omega), show 12 * (r + 1) + k = 12 * r + k + 12 by omega]; rfl
      · rw [z2 _ _ (by omega)]; simp [ur]
      · rw [z2 _ _ (by omega)]; simp [ur]
      · rw [z2 _ _ (by omega)]; simp [ur]
    refine ⟨V, ?_, On.trans oZ v2, v3, fun q => ⟨fun hq => ?_, fun h1 h2 => ?_⟩⟩
    · rw [F_Mo_distribute_66, h56, nI_1, if_neg (by rw [nI_leI (by omega) (by omega)]; omega), vqT (show r + 1 < 17 by omega) (by omega), vqT (show r < 17 by omega) (by omega), nI_clamp (by omega), nI_clamp (by omega)]
      exact z1.trans v1
    · exact ((v4 q).1 (by omega)).trans (hlo q (by omega))
    · by_cases q2 : q = r
      · subst q2
        exact ((v4 q).1 (by omega)).trans hat
      · exact ((v4 q).2 (by omega) h2).trans (hlo (q + 1) (by omega))
theorem m_d12 {l t : Nat} {x : Nat → Nat} {S : Nat → Int32} (hl : l < 16) (ht : t ≤ 155) (hx : ∀ k, k < t → x k ≤ 26) : ∀ (d i N : Nat) (Y : pm_II), i + d = t → d < N → Y 150 l = nI t → (∀ k, k < t → Y 149 (160 * l + k) = nI (x k)) → (∀ j, j < 26 → Y 146 (j + 1) = stk S x i j) → ∃ Z, F_Mo_distribute_12 u N (nI l) (nI i) Y J = F_Mo_distribute_66 u u (nI l) Z J ∧ On (fun c _ => c = 146) Y Z ∧ ∀ j, j < 26 → Z 146 (j + 1) = stk S x t j := by
  intro d
  induction d with
  | zero =>
    intro i N Y hi hN h150 h149 h146
    obtain ⟨N, rfl⟩ : ∃ z, N = z + 1 := ⟨N - 1, by omega⟩
    obtain rfl : i = t := by omega
    refine ⟨Y, ?_, On.refl _, h146⟩
    rw [F_Mo_distribute_12, vqT (show l < 17 by omega) (by omega), nI_clamp (by omega), h150, cond_true, if_pos (by rw [nI_leI (by omega) (by omega)]; omega)]
  | succ d ih =>
    intro i N Y hi hN h150 h149 h146
    obtain ⟨N, rfl⟩ : ∃ z, N = z + 1 := ⟨N - 1, by omega⟩
    have hxi := hx i (by omega)
    by_cases c : x i = 0
    · obtain ⟨Z, z1, z2, z3⟩ := ih (i + 1) N Y (by omega) (by omega) h150 h149 (by
        intro j hj
        rw [h146 j hj, stk]
        dsimp only
        rw [if_neg (by omega)])
      refine ⟨Z, ?_, z2, z3⟩
      rw [F_Mo_distribute_12, vqT (show l < 17 by omega) (by omega), nI_clamp (by omega), h150, cond_true, if_neg (by rw [nI_leI (by omega) (by omega)]; omega), show (160 : Int32) = nI 160 from rfl, pk_mul, nI_add, vqT (show 160 * l + i < 2624 by omega) (by omega), nI_clamp (by omega), h149 i (by omega), cond_true, if_pos (by rw [c]; decide), nI_io1, nI_add]
      exact z1
    · obtain ⟨Z, z1, z2, z3⟩ := ih (i + 1) N (pm_up Y 146 (x i) (Y 146 (x i) + 1)) (by omega) (by omega) h150 h149 (by
        intro j hj
        rw [ur, stk]
        dsimp only
        by_cases q : j + 1 = x i
        · rw [if_pos ⟨rfl, q⟩, if_pos q, ← q, h146 j hj]
        · rw [if_neg (fun z => q z.2), if_neg q, h146 j hj])
      refine ⟨Z, ?_, On.trans (On.up (On.refl _) rfl) z2, z3⟩
      rw [F_Mo_distribute_12, vqT (show l < 17 by omega) (by omega), nI_clamp (by omega), h150, cond_true, if_neg (by rw [nI_leI (by omega) (by omega)]; omega), show (160 : Int32) = nI 160 from rfl, pk_mul, nI_add, vqT (show 160 * l + i < 2624 by omega) (by omega), nI_clamp (by omega), h149 i (by omega), cond_true, if_neg (by rw [← nI_0, nI_leI (by omega) (by omega)]; omega), vqT (show x i < 27 by omega) (by omega), nI_clamp (by omega), nI_io1, nI_add]
      exact z1
/-- the galley with a line's place put behind the others -/
def rot (ga : Nat → Nat) (l g : Nat) : Nat → Nat := fun j => if j = g - 1 then ga l else if l ≤ j ∧ j < g - 1 then ga (j + 1) else ga j
theorem rot_G5 {ga : Nat → Nat} {l g : Nat} (h : G5 ga) (hl : l < g) (hg : g ≤ 16) : G5 (rot ga l g) := by
  have hf : ∃ f : Nat → Nat, (∀ j, j < 16 → f j < 16 ∧ rot ga l g j = ga (f j)) ∧ ∀ i j, i < 16 → j < 16 → f i = f j → i = j := by
    refine ⟨fun j => if j = g - 1 then l else if l ≤ j ∧ j < g - 1 then j + 1 else j, fun j hj => ?_, fun i j hi hj e => ?_⟩
    · unfold rot
      dsimp only
      split
      · exact ⟨by omega, rfl⟩
      · split
        · exact ⟨by omega, rfl⟩
        · exact ⟨hj, rfl⟩
    · dsimp only at e
      split at e <;> split at e <;> (try split at e) <;> (try split at e) <;> omega
  obtain ⟨f, f1, f2⟩ := hf
  refine ⟨fun j hj => ?_, fun i j hi hj e => ?_⟩
  · rw [(f1 j hj).2]
    exact h.1 _ (f1 j hj).1
  · rw [(f1 i hi).2, (f1 j hj).2] at e
    exact f2 i j hi hj (h.2 _ _ (f1 i hi).1 (f1 j hj).1 e)
end Dist
