/-! ===== jobs: the model's enumeration ===== -/
theorem full_b : ∀ n : Fin 7, ∀ i : Fin 32, (nI (2 ^ n.val - 1)).toBitVec.getLsbD i.val = decide (i.val < n.val) := by decide +kernel
theorem full_e : ∀ n : Fin 7, ((1 : Int32) <<< (nI n.val &&& 31)) - 1 = nI (2 ^ n.val - 1) := by decide +kernel
section Enum
variable {u n : Nat} {col pr bi du : Nat → Nat} {ch dr : Nat} {J : pm_JJ}
def BM (n : Nat) (b : BO) (x1 x2 x3 : Int32) (I : pm_II) : Prop := match b with
  | none => x3 = 0
  | some (l, o, v) => x1 = nI l ∧ x2 = nI o ∧ x3 = 1 ∧ l < 100000 ∧ o < 100000 ∧ ∀ k, k < n → I 173 k = nI (sq n v k)
theorem full_iff {U : Int32} {v : Nat} (hn : n ≤ 6) (hn1 : 0 < n) (hU : ∀ i, i < 32 → (U.toBitVec.getLsbD i = true ↔ ∃ j, j < n ∧ sq n v j = i)) : (U = nI (2 ^ n - 1)) ↔ prm n v = true := by
  have hf : ∀ i, i < 32 → (nI (2 ^ n - 1)).toBitVec.getLsbD i = decide (i < n) := fun i hi => full_b ⟨n, by omega⟩ ⟨i, hi⟩
  unfold prm
  rw [decide_eq_true_eq]
  constructor
  · intro e i hi
    have h1 := hf i (by omega)
    rw [← e, decide_eq_true hi] at h1
    obtain ⟨j, hj, e2⟩ := (hU i (by omega)).mp h1
    exact (cnt_pos n).mpr ⟨j, hj, decide_eq_true e2⟩
  · intro h
    apply Int32.toBitVec_inj.mp
    apply BitVec.eq_of_getLsbD_eq
    intro i hi
    rw [hf i hi]
    by_cases c : i < n
    · rw [decide_eq_true c]
      obtain ⟨j, hj, e2⟩ := onto_ex h i c
      exact (hU i hi).mpr ⟨j, hj, e2⟩
    · rw [decide_eq_false c]
      cases hq : U.toBitVec.getLsbD i with
      | false => rfl
      | true =>
        obtain ⟨j, hj, e2⟩ := (hU i hi).mp hq
        have := sq_lt (n := n) (v := v) (k := j) hn1
        omega
theorem m_199 {K : Int32 → Int32 → Int32 → Int32 → Int32 → pm_II → pm_JJ → Option (Unit × pm_II × pm_JJ)} {x1 x2 x3 x4 x5 : Int32} (hn : n ≤ 6) : ∀ (d k N : Nat) (I : pm_II), k + d = n → d < N → I 120 85 = nI n → (∀ j, j < k → I 173 j = I 174 j) → ∃ I2, F_Mo_findOrder_199 u K N x1 x2 x3 x4 x5 (nI k) I J = K x1 x2 x3 x4 (x5 + Int32.ofInt 1) I2 J ∧ (∀ j, j < n → I2 173 j = I 174 j) ∧ On (fun c _ => c = 173) I I2 := by
  intro d
  induction d with
  | zero =>
    intro k N I hk hN h85 hc
    obtain ⟨N, rfl⟩ : ∃ z, N = z + 1 := ⟨N - 1, by omega⟩
    refine ⟨I, ?_, fun j hj => hc j (by omega), On.refl _⟩
    rw [F_Mo_findOrder_199, h85, if_pos (by rw [nI_leI (by omega) (by omega)]; omega)]; rfl
  | succ d ih =>
    intro k N I hk hN h85 hc
    obtain ⟨N, rfl⟩ : ∃ z, N = z + 1 := ⟨N - 1, by omega⟩
    have o1 : On (fun c _ => c = 173) I (pm_up I 173 k (I 174 k)) := On.up (On.refl _) rfl
    obtain ⟨I2, i1, i2, i3⟩ := ih (k + 1) N (pm_up I 173 k (I 174 k)) (by omega) (by omega) h85 (fun j hj => by
      rw [ur, ur]
      by_cases q : j = k
      · subst q; rw [if_pos ⟨rfl, rfl⟩, if_neg (by omega)]
      · rw [if_neg (fun z => q z.2), if_neg (by omega)]; exact hc j (by omega))
    refine ⟨I2, ?_, fun j hj => by rw [i2 j hj, ur, if_neg (by omega)], o1.trans i3⟩
    rw [F_Mo_findOrder_199, h85, if_neg (by rw [nI_leI (by omega) (by omega)]; omega), vqT (show k < 6 by omega) (by omega), nI_clamp (by omega), nI_io1, nI_add]
    exact i1
theorem m_81 {K : Int32 → Int32 → Int32 → Int32 → Int32 → pm_II → pm_JJ → Option (Unit × pm_II × pm_JJ)} {x1 x2 x3 : Int32} {v A : Nat} {b : BO} (hu : 100 ≤ u) (hb : JB n col pr bi du ch dr) (hn1 : 0 < n) (hv : v < 2 ^ 20) : ∀ (k N : Nat) (U : Int32) (I : pm_II), k ≤ n → k < N → JM n col pr bi du ch dr I → BM n b x1 x2 x3 I → (∀ j, k ≤ j → j < n → I 174 j = nI (sq n v j)) → (∀ i, i < 32 → (U.toBitVec.getLsbD i = true ↔ ∃ j, (k ≤ j ∧ j < n) ∧ sq n v j = i)) → ∃ y1 y2 y3 I2, F_Mo_findOrder_81 u K N x1 x2 x3 (nI A) (nI v) U (nI (v / n ^ (n - k))) (nI k - 1) I J = K y1 y2 y3 (nI A) (nI v + Int32.ofInt 1) I2 J ∧ JM n col pr bi du ch dr I2 ∧ BM n (upd1 col pr bi du ch dr n v b) y1 y2 y3 I2 ∧ On (fun c k => (c = 120 ∧ (88 ≤ k ∧ k ≤ 90)) ∨ (173 ≤ c ∧ c ≤ 175)) I I2 := by
  have hn := hb.1
  intro k
  induction k with
  | zero =>
    intro N U I hk hN hj hbm ht hU
    obtain ⟨N, rfl⟩ : ∃ z, N = z + 1 := ⟨N - 1, by omega⟩
    rw [F_Mo_findOrder_81, if_pos (by decide), hj.1, full_e ⟨n, by omega⟩]
    have hfi := full_iff (U := U) (v := v) hn hn1 (fun i hi => (hU i hi).trans ⟨fun ⟨j, a, c⟩ => ⟨j, a.2, c⟩, fun ⟨j, a, c⟩ => ⟨j, ⟨Nat.zero_le _, a⟩, c⟩⟩)
    by_cases hp : prm n v = true
    · rw [if_pos (hfi.mpr hp)]
      obtain ⟨I1, e1, e2, e3, e4, e5, e6⟩ := m_runs (u := u) (J := J) (σ := sq n v) (a := 174) (by omega) (Or.inr rfl) hb hj (fun j hj2 => ⟨ht j (by omega) hj2, sq_lt hn1⟩)
      obtain ⟨t1, t2, t3⟩ := tl_b hb (sq n v) n hn
      rw [e1, bd_s, e3, e4]
      have hj1 : JM n col pr bi du ch dr I1 := hj.on e6 (by omega) (by omega) (by omega) (fun c x h1 h2 => by omega)
      have o1 : On (fun c k => (c = 120 ∧ (88 ≤ k ∧ k ≤ 90)) ∨ (173 ≤ c ∧ c ≤ 175)) I I1 := e6.mono (fun c x hc => by omega)
      have hupd : upd1 col pr bi du ch dr n v b = cond (lth (tl col pr bi du ch dr (sq n v) n).2.2 (tl col pr bi du ch dr (sq n v) n).2.1 b) (some ((tl col pr bi du ch dr (sq n v) n).2.2, (tl col pr bi du ch dr (sq n v) n).2.1, v)) b := by unfold upd1; rw [hp, Bool.true_and]
      have take : ∃ y1 y2 y3 I2, F_Mo_findOrder_184 u K (nI A) (nI v) I1 J = K y1 y2 y3 (nI A) (nI v + Int32.ofInt 1) I2 J ∧ JM n col pr bi du ch dr I2 ∧ BM n (some ((tl col pr bi du ch dr (sq n v) n).2.2, (tl col pr bi du ch dr (sq n v) n).2.1, v)) y1 y2 y3 I2 ∧ On (fun c k => (c = 120 ∧ (88 ≤ k ∧ k ≤ 90)) ∨ (173 ≤ c ∧ c ≤ 175)) I I2 := by
        obtain ⟨I2, g1, g2, g3⟩ := m_199 (u := u) (J := J) (K := K) (x1 := nI (tl col pr bi du ch dr (sq n v) n).2.2) (x2 := nI (tl col pr bi du ch dr (sq n v) n).2.1) (x3 := 1) (x4 := nI A) (x5 := nI v) hn n 0 u I1 (by omega) (by omega) hj1.1 (fun j hj2 => by omega)
        refine ⟨_, _, _, I2, ?_, hj1.on g3 (by omega) (by omega) (by omega) (fun c x h1 h2 => by omega), ⟨rfl, rfl, rfl, t3, by omega, fun j hj2 => ?_⟩, o1.trans (g3.mono (fun c x hc => by omega))⟩
        · unfold F_Mo_findOrder_184
          rw [e3, e4]
          exact g1
        · rw [g2 j hj2, e6 174 j (by omega)]; exact ht j (by omega) hj2
      have leave : F_Mo_findOrder_228 u K x1 x2 x3 (nI A) (nI v) I1 J = K x1 x2 x3 (nI A) (nI v + Int32.ofInt 1) I1 J := rfl
      have hbm1 : BM n b x1 x2 x3 I1 := by
        cases b with
        | none => exact hbm
        | some q =>
          obtain ⟨l, o, w⟩ := q
          exact ⟨hbm.1, hbm.2.1, hbm.2.2.1, hbm.2.2.2.1, hbm.2.2.2.2.1, fun j hj2 => by rw [e6 173 j (by omega)]; exact hbm.2.2.2.2.2 j hj2⟩
      rw [hupd]
      cases b with
      | none =>
        have h3 : x3 = 0 := hbm
        rw [if_pos h3]
        exact take
      | some q =>
        obtain ⟨l, o, w⟩ := q
        obtain ⟨h1, h2, h3, h4, h5, h6⟩ := hbm
        subst h1 h2 h3
        rw [if_neg (by decide)]
        simp (disch := omega) only [nI_ltI, nI_eq]
        unfold lth
        dsimp only
        rw [leave]
        by_cases c1 : l < (tl col pr bi du ch dr (sq n v) n).2.2
        · rw [if_pos c1, decide_eq_false (by omega)]
          exact ⟨_, _, _, I1, rfl, hj1, hbm1, o1⟩
        · rw [if_neg c1]
          by_cases c2 : (tl col pr bi du ch dr (sq n v) n).2.2 = l
          · rw [if_neg (by omega)]
            by_cases c3 : (tl col pr bi du ch dr (sq n v) n).2.1 < o
            · rw [if_pos c3, decide_eq_true (by omega)]
              exact take
            · rw [if_neg c3, decide_eq_false (by omega)]
              exact ⟨_, _, _, I1, rfl, hj1, hbm1, o1⟩
          · rw [if_pos c2, decide_eq_true (by omega)]
            exact take
    · rw [if_neg (fun z => hp (hfi.mp z))]
      have hupd : upd1 col pr bi du ch dr n v b = b := by
        unfold upd1
        cases hq : prm n v with
        | true => exact absurd hq hp
        | false => rfl
      rw [hupd]
      exact ⟨_, _, _, I, rfl, hj, hbm, On.refl _⟩
  | succ k ih =>
    intro N U I hk hN hj hbm ht hU
    obtain ⟨N, rfl⟩ : ∃ z, N = z + 1 := ⟨N - 1, by omega⟩
    have e1 : nI (k + 1) - 1 = nI k := by rw [nl_1, pk_sub (by omega)]; rfl
    have n0 : ¬ nI n = 0 := by rw [i0_iff (by omega)]; omega
    have hd : v / n ^ (n - (k + 1)) < 2 ^ 20 := Nat.lt_of_le_of_lt (Nat.div_le_self _ _) hv
    have hs : v / n ^ (n - (k + 1)) % n = sq n v k := by unfold sq; congr 3; omega
    have hs2 : v / n ^ (n - (k + 1)) / n = v / n ^ (n - k) := by
      rw [Nat.div_div_eq_div_mul, ← Nat.pow_succ]; congr 2; omega
    have hsl := sq_lt (n := n) (v := v) (k := k) hn1
    rw [F_Mo_findOrder_81, e1, if_neg (nI_pos (by omega)), hj.1, if_pos n0, if_pos n0, if_pos n0, vqT (show k < 6 by omega) (by omega), cond_true, pk_rem (by omega) hn1 (by omega), pk_div (by omega) hn1 (by omega), hs, hs2, nI_clamp (by omega), nI_iom1]
    have e2 : nI k + -1 = nI k - 1 := (Int32.sub_eq_add_neg _ _).symm
    rw [e2]
    have o1 : On (fun c j => c = 174 ∧ j = k) I (pm_up I 174 k (nI (sq n v k))) := On.up (On.refl _) ⟨rfl, rfl⟩
    have hbm1 : BM n b x1 x2 x3 (pm_up I 174 k (nI (sq n v k))) := by
      cases b with
      | none => exact hbm
      | some q =>
        obtain ⟨l, o, w⟩ := q
        exact hbm
    obtain ⟨y1, y2, y3, I2, i1, i2, i3, i4⟩ := ih N (U ||| ((1 : Int32) <<< (nI (sq n v k) &&& 31))) (pm_up I 174 k (nI (sq n v k))) (by omega) (by omega) hj hbm1 (fun j h1 h2 => by
      rw [ur]
      by_cases q : j = k
      · subst q; rw [if_pos ⟨rfl, rfl⟩]
      · rw [if_neg (fun z => q z.2)]; exact ht j (by omega) h2) (fun i hi => by
      rw [bit_set (by omega) hi, Bool.or_eq_true, hU i hi, decide_eq_true_eq]
      constructor
      · intro h
        rcases h with ⟨j, a, c⟩ | h
        · exact ⟨j, ⟨by omega, a.2⟩, c⟩
        · exact ⟨k, ⟨by omega, by omega⟩, h.symm⟩
      · intro ⟨j, a, c⟩
        by_cases q : j = k
        · subst q; exact Or.inr c.symm
        · exact Or.inl ⟨j, ⟨by omega, a.2⟩, c⟩)
    exact ⟨y1, y2, y3, I2, i1, i2, i3, (o1.mono (fun c x hc => by omega)).trans i4⟩
theorem m_52 {A : Nat} (hu : 100 ≤ u) (hb : JB n col pr bi du ch dr) (hn1 : 0 < n) (hA : A < 2 ^ 20) : ∀ (d v N : Nat) (b : BO) (x1 x2 x3 : Int32) (I : pm_II), v + d = A → d < N → JM n col pr bi du ch dr I → BM n b x1 x2 x3 I → ∃ y1 y2 y3 I2, F_Mo_findOrder_52 u N x1 x2 x3 (nI A) (nI v) I J = F_Mo_findOrder_234 u I2 J ∧ JM n col pr bi du ch dr I2 ∧ BM n (fol col pr bi du ch dr n v d b) y1 y2 y3 I2 ∧ On (fun c k => (c = 120 ∧ (88 ≤ k ∧ k ≤ 90)) ∨ (173 ≤ c ∧ c ≤ 175)) I I2 := by
  have hn := hb.1
  intro d
  induction d with
  | zero =>
    intro v N b x1 x2 x3 I hv hN hj hbm
    obtain ⟨N, rfl⟩ : ∃ z, N = z + 1 := ⟨N - 1, by omega⟩
    refine ⟨x1, x2, x3, I, ?_, hj, hbm, On.refl _⟩
    rw [F_Mo_findOrder_52, if_pos (by rw [nI_leI (by omega) (by omega)]; omega)]
  | succ d ih =>
    intro v N b x1 x2 x3 I hv hN hj hbm
    obtain ⟨N, rfl⟩ : ∃ z, N = z + 1 := ⟨N - 1, by omega⟩
    have z32 : ∀ i, i < 32 → ((0 : Int32).toBitVec.getLsbD i = true ↔ ∃ j, (n ≤ j ∧ j < n) ∧ sq n v j = i) := by
      intro i hi
      constructor
      · intro h
        have : (0#32).getLsbD i = true := h
        simp at this
      · intro ⟨j, a, _⟩; omega
    obtain ⟨y1, y2, y3, I1, e1, e2, e3, e4⟩ := m_81 (u := u) (J := J) (K := F_Mo_findOrder_52 u N) (A := A) (v := v) (b := b) hu hb hn1 (by omega) n u 0 I (by omega) (by omega) hj hbm (fun j h1 h2 => by omega) z32
    obtain ⟨w1, w2, w3, I2, g1, g2, g3, g4⟩ := ih (v + 1) N _ y1 y2 y3 I1 (by omega) (by omega) e2 e3
    refine ⟨w1, w2, w3, I2, ?_, g2, g3, e4.trans g4⟩
    rw [F_Mo_findOrder_52, if_neg (by rw [nI_leI (by omega) (by omega)]; omega), hj.1, nl_0, if_neg (by rw [nI_leI (by omega) (by omega)]; omega)]
    rw [Nat.sub_self, Nat.pow_zero, Nat.div_one, nI_io1, nI_add] at e1
    refine Eq.trans ?_ (e1.trans g1)
    rfl
theorem m_25 {x1 x2 x3 : Int32} {I : pm_II} (hn : n ≤ 6) (h85 : I 120 85 = nI n) : ∀ (d k N : Nat), k + d = n → d < N → F_Mo_findOrder_25 u N x1 x2 x3 (nI (n ^ k)) (nI k) I J = F_Mo_findOrder_52 u u x1 x2 x3 (nI (n ^ n)) 0 I J := by
  intro d
  induction d with
  | zero =>
    intro k N hk hN
    obtain ⟨N, rfl⟩ : ∃ z, N = z + 1 := ⟨N - 1, by omega⟩
    have : k = n := by omega
    subst this
    rw [F_Mo_findOrder_25, h85, if_pos (by rw [nI_leI (by omega) (by omega)]; omega)]
  | succ d ih =>
    intro k N hk hN
    obtain ⟨N, rfl⟩ : ∃ z, N = z + 1 := ⟨N - 1, by omega⟩
    rw [F_Mo_findOrder_25, h85, if_neg (by rw [nI_leI (by omega) (by omega)]; omega), pk_mul, ← Nat.pow_succ, nI_io1, nI_add]
    exact ih (k + 1) N (by omega) (by omega)
end Enum
