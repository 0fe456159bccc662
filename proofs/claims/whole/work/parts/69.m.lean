/-! ===== jobs: the class's search ===== -/
def JB (n : Nat) (col pr bi du : Nat → Nat) (ch dr : Nat) : Prop := n ≤ 6 ∧ (∀ j, col j ≤ 3 ∧ pr j ≤ 99 ∧ bi j ≤ 99 ∧ du j ≤ 999) ∧ ch ≤ 50 ∧ dr ≤ 50
def JC (n : Nat) (col pr bi du : Nat → Nat) (ch dr : Nat) (I : pm_II) : Prop := I 101 8 = nI n ∧ I 101 9 = nI ch ∧ I 101 10 = nI dr ∧ ∀ i, i < n → I 102 i = nI (col i) ∧ I 103 i = nI (pr i) ∧ I 104 i = nI (bi i) ∧ I 105 i = nI (du i)
def BC (n : Nat) (b : BO) (I : pm_II) : Prop := match b with
  | none => I 101 11 = nI 1000000 ∧ I 101 12 = nI 1000000
  | some (l, o, v) => I 101 11 = nI l ∧ I 101 12 = nI o ∧ l < 100000 ∧ o < 100000 ∧ ∀ k, k < n → I 106 k = nI (sq n v k)
theorem JC.on {n : Nat} {col pr bi du : Nat → Nat} {ch dr : Nat} {I I2 : pm_II} {S : Nat → Nat → Prop} (h : JC n col pr bi du ch dr I) (o : On S I I2) (h8 : ¬ S 101 8) (h9 : ¬ S 101 9) (h10 : ¬ S 101 10) (hr : ∀ c k, 102 ≤ c → c ≤ 105 → ¬ S c k) : JC n col pr bi du ch dr I2 := by
  refine ⟨by rw [o 101 8 h8]; exact h.1, by rw [o 101 9 h9]; exact h.2.1, by rw [o 101 10 h10]; exact h.2.2.1, fun i hi => ?_⟩
  rw [o 102 i (hr _ _ (by omega) (by omega)), o 103 i (hr _ _ (by omega) (by omega)), o 104 i (hr _ _ (by omega) (by omega)), o 105 i (hr _ _ (by omega) (by omega))]
  exact h.2.2.2 i hi
def kS (c k : Nat) : Prop := (c = 101 ∧ (k = 11 ∨ k = 12)) ∨ c = 106 ∨ c = 107 ∨ c = 108
section Search
variable {u n : Nat} {col pr bi du : Nat → Nat} {ch dr : Nat} {I : pm_II} {J : pm_JJ}
theorem w_has {x : Nat} (h8 : I 101 8 = nI n) (hn : n ≤ 6) (hx : x < 2 ^ 31) : F_Wo_has u (nI x) I J = some (b2i (decide (x < n)), I, J) := by
  unfold F_Wo_has
  rw [if_neg (nI_pos hx), h8, show (6 : Int32) = nI 6 from rfl]
  by_cases c : x < n
  · rw [if_neg (by rw [nI_leI (by omega) (by omega)]; omega), if_neg (by rw [nI_leI (by omega) (by omega)]; omega), decide_eq_true c]; rfl
  · rw [if_pos (by rw [nI_leI (by omega) (by omega)]; omega), decide_eq_false c]; rfl
theorem w_isChange {a k : Nat} {σ : Nat → Nat} (ha : a = 106 ∨ a = 107) (hj : JC n col pr bi du ch dr I) (hb : JB n col pr bi du ch dr) (hk : k < n) (hr : ∀ j, j ≤ k → I a j = nI (σ j) ∧ σ j < n) : F_Wo_isChange u a (nI k) I J = some (b2i (chg col σ k), I, J) := by
  have hn := hb.1
  have hsh : (pm_sh a).2 = 6 := by rcases ha with rfl | rfl <;> rfl
  unfold F_Wo_isChange
  by_cases c : k = 0
  · subst c
    rw [if_pos (by decide)]
    rfl
  · rw [nl_0, if_neg (by rw [nI_leI (by omega) (by omega)]; omega), hsh, ofN, if_neg (by rw [nI_leI (by omega) (by omega)]; omega), nl_1, pk_sub (by omega), nI_clamp (by omega), nI_clamp (by omega), vqT (show k < 6 by omega) (by omega), vqT (show k - 1 < 6 by omega) (by omega), (hr k (by omega)).1]
    have s1 := (hr k (by omega)).2
    have s2 := (hr (k - 1) (by omega)).2
    simp only [cond_true]
    rw [w_has hj.1 hn (by omega), bd_s, decide_eq_true s1, if_neg (by decide), (hr (k - 1) (by omega)).1, w_has hj.1 hn (by omega), bd_s, decide_eq_true s2, if_neg (by decide), (hr k (by omega)).1, (hr (k - 1) (by omega)).1, nI_clamp (by omega), nI_clamp (by omega), vqT (show σ k < 6 by omega) (by omega), vqT (show σ (k - 1) < 6 by omega) (by omega), (hj.2.2.2 _ s1).1, (hj.2.2.2 _ s2).1]
    simp only [cond_true]
    have c1 := (hb.2.1 (σ k)).1
    have c2 := (hb.2.1 (σ (k - 1))).1
    unfold chg
    by_cases q : col (σ k) = col (σ (k - 1))
    · rw [if_pos (by rw [q]), decide_eq_false (by omega)]; rfl
    · rw [if_neg (by rw [nI_eq (by omega) (by omega)]; exact q), decide_eq_true (by omega)]; rfl
theorem w_ahead {a k : Nat} {σ : Nat → Nat} (ha : a = 106 ∨ a = 107) (hj : JC n col pr bi du ch dr I) (hb : JB n col pr bi du ch dr) (hk : k < n) (hr : ∀ j, j ≤ k → I a j = nI (σ j) ∧ σ j < n) : F_Wo_changeAhead u a (nI k) I J = some (nI (cond (chg col σ k) ch 0), I, J) := by
  unfold F_Wo_changeAhead
  rw [w_isChange ha hj hb hk hr, bd_s, b2i_if0, hj.2.1]
  cases chg col σ k <;> rfl
theorem w_keep12 : ∀ (d k N : Nat) (g : Nat → Int32), k + d = 6 → d < N → F_Wo_keepTrial_12 u N (nI k) (sr I 106 (fun j => if j < k then I 107 j else g j)) J = some ((), sr I 106 (fun j => if j < 6 then I 107 j else g j), J) := by
  intro d
  induction d with
  | zero =>
    intro k N g hk hN
    obtain ⟨N, rfl⟩ : ∃ z, N = z + 1 := ⟨N - 1, by omega⟩
    have : k = 6 := by omega
    subst this
    rw [F_Wo_keepTrial_12, if_pos (by decide)]
  | succ d ih =>
    intro k N g hk hN
    obtain ⟨N, rfl⟩ : ∃ z, N = z + 1 := ⟨N - 1, by omega⟩
    rw [F_Wo_keepTrial_12, show (6 : Int32) = nI 6 from rfl, if_neg (by rw [nI_leI (by omega) (by omega)]; omega), vqT (show k < 6 by omega) (by omega), nI_clamp (by omega)]
    simp only [cond_true]
    rw [sr_ne (by omega), sr_up, nI_io1, nI_add]
    have e : (fun j => if j = k then I 107 k else if j < k then I 107 j else g j) = (fun j => if j < k + 1 then I 107 j else g j) := by
      funext j
      by_cases q : j = k
      · subst q; rw [if_pos rfl, if_pos (by omega)]
      · rw [if_neg q]
        by_cases q2 : j < k
        · rw [if_pos q2, if_pos (by omega)]
        · rw [if_neg q2, if_neg (by omega)]
    rw [e]
    exact ih (k + 1) N g (by omega) (by omega)
theorem w_keep {o l : Nat} (hu : 20 ≤ u) : ∃ I2, F_Wo_keepTrial u (nI o) (nI l) I J = some ((), I2, J) ∧ I2 101 11 = nI l ∧ I2 101 12 = nI o ∧ (∀ j, j < 6 → I2 106 j = I 107 j) ∧ On (fun c k => (c = 101 ∧ (k = 11 ∨ k = 12)) ∨ c = 106) I I2 := by
  unfold F_Wo_keepTrial
  have h := w_keep12 (u := u) (I := pm_up (pm_up I 101 11 (nI l)) 101 12 (nI o)) (J := J) 6 0 u (I 106) (by omega) (by omega)
  have e : (sr (pm_up (pm_up I 101 11 (nI l)) 101 12 (nI o)) 106 (fun j => if j < 0 then (pm_up (pm_up I 101 11 (nI l)) 101 12 (nI o)) 107 j else I 106 j)) = pm_up (pm_up I 101 11 (nI l)) 101 12 (nI o) := by
    have e2 : (fun j => if j < 0 then (pm_up (pm_up I 101 11 (nI l)) 101 12 (nI o)) 107 j else I 106 j) = (pm_up (pm_up I 101 11 (nI l)) 101 12 (nI o)) 106 := by
      funext j
      rw [if_neg (by omega)]; rfl
    rw [e2, sr_id]
  rw [e] at h
  refine ⟨_, h, ?_, ?_, fun j hj => ?_, ?_⟩
  · rw [sr_ne (by omega)]; rfl
  · rw [sr_ne (by omega)]; rfl
  · rw [sr_at, if_pos hj]; rfl
  · exact On.sr (On.up (On.up (On.refl _) (by omega)) (by omega)) (fun k => by omega)
theorem bc_if {α : Type} {b : BO} {l o : Nat} {A B : α} (hl : l < 100000) (ho : o < 100000) (h : BC n b I) : (if I 101 11 < nI l then A else if ¬ nI l = I 101 11 then B else if nI o < I 101 12 then B else A) = cond (lth l o b) B A := by
  cases b with
  | none =>
    rw [h.1, if_neg (by rw [nI_ltI (by omega) (by omega)]; omega), if_pos (by rw [nI_eq (by omega) (by omega)]; omega)]; rfl
  | some q =>
    obtain ⟨l2, o2, v⟩ := q
    obtain ⟨h1, h2, h3, h4, h5⟩ := h
    rw [h1, h2]
    simp (disch := omega) only [nI_ltI, nI_eq]
    unfold lth
    dsimp only
    by_cases c1 : l2 < l
    · rw [if_pos c1, decide_eq_false (by omega)]; rfl
    · rw [if_neg c1]
      by_cases c2 : l = l2
      · rw [if_neg (by omega)]
        by_cases c3 : o < o2
        · rw [if_pos c3, decide_eq_true (by omega)]; rfl
        · rw [if_neg c3, decide_eq_false (by omega)]; rfl
      · rw [if_pos c2, decide_eq_true (by omega)]; rfl
theorem BC.on {b : BO} {I2 : pm_II} (h : BC n b I) (h11 : I2 101 11 = I 101 11) (h12 : I2 101 12 = I 101 12) (h6 : ∀ k, k < n → I2 106 k = I 106 k) : BC n b I2 := by
  cases b with
  | none => exact ⟨h11.trans h.1, h12.trans h.2⟩
  | some q =>
    obtain ⟨l, o, v⟩ := q
    exact ⟨h11.trans h.1, h12.trans h.2.1, h.2.2.1, h.2.2.2.1, fun k hk => (h6 k hk).trans (h.2.2.2.2 k hk)⟩
end Search
