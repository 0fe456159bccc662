/-! ===== jobs: the times of an order, in class and model ===== -/
def JM (n : Nat) (col pr bi du : Nat → Nat) (ch dr : Nat) (I : pm_II) : Prop := I 120 85 = nI n ∧ I 120 86 = nI ch ∧ I 120 87 = nI dr ∧ ∀ i, i < n → I 169 i = nI (col i) ∧ I 170 i = nI (pr i) ∧ I 171 i = nI (bi i) ∧ I 172 i = nI (du i)
theorem JM.on {n : Nat} {col pr bi du : Nat → Nat} {ch dr : Nat} {I I2 : pm_II} {S : Nat → Nat → Prop} (h : JM n col pr bi du ch dr I) (o : On S I I2) (h8 : ¬ S 120 85) (h9 : ¬ S 120 86) (h10 : ¬ S 120 87) (hr : ∀ c k, 169 ≤ c → c ≤ 172 → ¬ S c k) : JM n col pr bi du ch dr I2 := by
  refine ⟨by rw [o 120 85 h8]; exact h.1, by rw [o 120 86 h9]; exact h.2.1, by rw [o 120 87 h10]; exact h.2.2.1, fun i hi => ?_⟩
  rw [o 169 i (hr _ _ (by omega) (by omega)), o 170 i (hr _ _ (by omega) (by omega)), o 171 i (hr _ _ (by omega) (by omega)), o 172 i (hr _ _ (by omega) (by omega))]
  exact h.2.2.2 i hi
section Runs
variable (col pr bi du : Nat → Nat) (ch dr : Nat)
def tv (σ : Nat → Nat) (k w : Nat) : Nat := if w = 0 then (tl col pr bi du ch dr σ k).1 + cond (chg col σ k) ch 0 else if w = 1 then (tl col pr bi du ch dr σ (k + 1)).1 else if w = 2 then max ((tl col pr bi du ch dr σ (k + 1)).1 + dr) (tl col pr bi du ch dr σ k).2.1 else if w = 3 then (tl col pr bi du ch dr σ (k + 1)).2.1 else (tl col pr bi du ch dr σ (k + 1)).2.1 - du (σ k)
end Runs
section Runs2
variable {u n : Nat} {col pr bi du : Nat → Nat} {ch dr : Nat} {J : pm_JJ} {σ : Nat → Nat}
theorem tl_b (hb : JB n col pr bi du ch dr) (σ : Nat → Nat) (k : Nat) (hk : k ≤ 6) : (tl col pr bi du ch dr σ k).1 < 10000 ∧ (tl col pr bi du ch dr σ k).2.1 < 10000 ∧ (tl col pr bi du ch dr σ k).2.2 < 100000 := by
  have h := tl_le col pr bi du ch dr (σ := σ) (fun j => (hb.2.1 j).2.1) (fun j => (hb.2.1 j).2.2.1) hb.2.2.1 hb.2.2.2 k
  have : (248 * k + 50) * k ≤ 1538 * 6 := Nat.mul_le_mul (by omega) (by omega)
  omega
theorem b2i_n (t : Bool) : b2i t = nI t.toNat := by cases t <;> rfl
/-- the class's schedule -/
theorem w_sched (hb : JB n col pr bi du ch dr) : ∀ (d k N : Nat) (I : pm_II), k + d = n → d < N → JC n col pr bi du ch dr I → (∀ j, j < n → I 106 j = nI (σ j) ∧ σ j < n) → injP σ n → I 101 13 = nI (cnt (chg col σ) k) → (∀ j w, j < k → w < 5 → I 109 (5 * σ j + w) = nI (tv col pr bi du ch dr σ j w)) → ∃ I2, F_Wo_writeSchedule_11 u N (nI (tl col pr bi du ch dr σ k).1) (nI (tl col pr bi du ch dr σ k).2.1) (nI k) I J = some ((), I2, J) ∧ I2 101 13 = nI (cnt (chg col σ) n) ∧ (∀ j w, j < n → w < 5 → I2 109 (5 * σ j + w) = nI (tv col pr bi du ch dr σ j w)) ∧ On (fun c k => (c = 101 ∧ k = 13) ∨ c = 109) I I2 := by
  have hn := hb.1
  intro d
  induction d with
  | zero =>
    intro k N I hk hN hj hr hinj h13 h109
    obtain ⟨N, rfl⟩ : ∃ z, N = z + 1 := ⟨N - 1, by omega⟩
    have : k = n := by omega
    subst this
    refine ⟨I, ?_, h13, h109, On.refl _⟩
    rw [F_Wo_writeSchedule_11, hj.1, if_pos (by rw [nI_leI (by omega) (by omega)]; omega)]; rfl
  | succ d ih =>
    intro k N I hk hN hj hr hinj h13 h109
    obtain ⟨N, rfl⟩ : ∃ z, N = z + 1 := ⟨N - 1, by omega⟩
    have hkn : k < n := by omega
    obtain ⟨r1, r2⟩ := hr k hkn
    have hr' : ∀ j, j ≤ k → I 106 j = nI (σ j) ∧ σ j < n := fun j hj2 => hr j (by omega)
    obtain ⟨p1, p2, p3, p4⟩ := hj.2.2.2 (σ k) r2
    have b0 := hb.2.1 (σ k)
    obtain ⟨t1, t2, t3⟩ := tl_b hb σ k (by omega)
    obtain ⟨t4, t5, t6⟩ := tl_b hb σ (k + 1) (by omega)
    have hcnt := cnt_le (G := chg col σ) k
    have hdr := hb.2.2.2
    have eT : tl col pr bi du ch dr σ (k + 1) = ((tl col pr bi du ch dr σ k).1 + cond (chg col σ k) ch 0 + pr (σ k), max ((tl col pr bi du ch dr σ k).1 + cond (chg col σ k) ch 0 + pr (σ k) + dr) (tl col pr bi du ch dr σ k).2.1 + bi (σ k), (tl col pr bi du ch dr σ k).2.2 + (max ((tl col pr bi du ch dr σ k).1 + cond (chg col σ k) ch 0 + pr (σ k) + dr) (tl col pr bi du ch dr σ k).2.1 + bi (σ k) - du (σ k))) := rfl
    have v0 : tv col pr bi du ch dr σ k 0 = (tl col pr bi du ch dr σ k).1 + cond (chg col σ k) ch 0 := rfl
    have v1 : tv col pr bi du ch dr σ k 1 = (tl col pr bi du ch dr σ k).1 + cond (chg col σ k) ch 0 + pr (σ k) := rfl
    have v2 : tv col pr bi du ch dr σ k 2 = max ((tl col pr bi du ch dr σ k).1 + cond (chg col σ k) ch 0 + pr (σ k) + dr) (tl col pr bi du ch dr σ k).2.1 := rfl
    have v3 : tv col pr bi du ch dr σ k 3 = max ((tl col pr bi du ch dr σ k).1 + cond (chg col σ k) ch 0 + pr (σ k) + dr) (tl col pr bi du ch dr σ k).2.1 + bi (σ k) := rfl
    have v4 : tv col pr bi du ch dr σ k 4 = max ((tl col pr bi du ch dr σ k).1 + cond (chg col σ k) ch 0 + pr (σ k) + dr) (tl col pr bi du ch dr σ k).2.1 + bi (σ k) - du (σ k) := rfl
    have hcg : cond (chg col σ k) ch 0 ≤ 50 := by have := hb.2.2.1; cases chg col σ k <;> simp <;> omega
    generalize hcgv : cond (chg col σ k) ch 0 = cg at *
    generalize hTk : tl col pr bi du ch dr σ k = T at *
    generalize hI1 : pm_up (pm_up (pm_up (pm_up (pm_up (pm_up I 101 13 (nI (cnt (chg col σ) (k + 1)))) 109 (σ k * 5) (nI (T.1 + cg))) 109 (σ k * 5 + 1) (nI (T.1 + cg + pr (σ k)))) 109 (σ k * 5 + 2) (nI (max (T.1 + cg + pr (σ k) + dr) T.2.1))) 109 (σ k * 5 + 3) (nI (max (T.1 + cg + pr (σ k) + dr) T.2.1 + bi (σ k)))) 109 (σ k * 5 + 4) (nI (max (T.1 + cg + pr (σ k) + dr) T.2.1 + bi (σ k) - du (σ k))) = I1
    have o1 : On (fun c x => (c = 101 ∧ x = 13) ∨ (c = 109 ∧ (σ k * 5 ≤ x ∧ x < σ k * 5 + 5))) I I1 := by
      rw [← hI1]
      refine On.up (On.up (On.up (On.up (On.up (On.up (On.refl _) ?_) ?_) ?_) ?_) ?_) ?_ <;> omega
    have hj1 : JC n col pr bi du ch dr I1 := hj.on o1 (by omega) (by omega) (by omega) (fun c x h1 h2 => by omega)
    have h109' : ∀ j w, j < k + 1 → w < 5 → I1 109 (5 * σ j + w) = nI (tv col pr bi du ch dr σ j w) := by
      intro j w hjk hw
      by_cases q : j = k
      · subst q
        have : w = 0 ∨ w = 1 ∨ w = 2 ∨ w = 3 ∨ w = 4 := by omega
        rw [← hI1]
        rcases this with rfl | rfl | rfl | rfl | rfl
        · rw [v0]; simp [ur, Nat.mul_comm]
        · rw [v1]; simp [ur, Nat.mul_comm]
        · rw [v2]; simp [ur, Nat.mul_comm]
        · rw [v3]; simp [ur, Nat.mul_comm]
        · rw [v4]; simp [ur, Nat.mul_comm]
      · have hne : σ j ≠ σ k := fun e => q (hinj j k (by omega) (by omega) e)
        rw [o1 109 (5 * σ j + w) (by omega)]
        exact h109 j w (by omega) hw
    obtain ⟨I2, i1, i2, i3, i4⟩ := ih (k + 1) N I1 (by omega) (by omega) hj1 (fun j hj2 => by rw [o1 106 j (by omega)]; exact hr j hj2) hinj (by rw [← hI1]; simp [ur]) h109'
    refine ⟨I2, ?_, i2, i3, (o1.mono (fun c x hc => by omega)).trans i4⟩
    rw [eT] at i1
    dsimp only at i1
    rw [← i1]
    rw [F_Wo_writeSchedule_11, hj.1, if_neg (by rw [nI_leI (by omega) (by omega)]; omega), show (6 : Int32) = nI 6 from rfl, if_neg (by rw [nI_leI (by omega) (by omega)]; omega), vqT (show k < 6 by omega) (by omega), cond_true, nI_clamp (by omega), r1, w_has hj.1 hn (by omega), bd_s, decide_eq_true r2, if_pos (by decide), w_ahead (Or.inl rfl) hj hb hkn hr', bd_s, w_isChange (Or.inl rfl) hj hb hkn hr', bd_s, b2i_if0, hcgv, nI_add, h13]
    have e78 : ∀ s2 : Nat, nI (cnt (chg col σ) k) + nI s2 = nI (cnt (chg col σ) (k + 1)) → F_Wo_writeSchedule_78 u (F_Wo_writeSchedule_11 u N) (nI T.2.1) (nI k) (nI (σ k)) (nI (T.1 + cg)) (nI (cnt (chg col σ) k)) (nI s2) I J = F_Wo_writeSchedule_11 u N (nI (T.1 + cg + pr (σ k))) (nI (max (T.1 + cg + pr (σ k) + dr) T.2.1 + bi (σ k))) (nI (k + 1)) I1 J := by
      intro s2 hs2
      unfold F_Wo_writeSchedule_78
      rw [vqT (show σ k < 6 by omega) (by omega), nI_clamp (by omega), hs2, p2, hj.2.2.1, nI_add, nI_add, j_maxN (by omega) (by omega), bd_s, show (5 : Int32) = nI 5 from rfl, pk_mul]
      simp only [cond_true, nl_1, nl_2, nl_3, nl_4, nI_add]
      have q1 : (pm_up I 101 13 (nI (cnt (chg col σ) (k + 1)))) 104 (σ k) = nI (bi (σ k)) := p3
      have q2 : (pm_up I 101 13 (nI (cnt (chg col σ) (k + 1)))) 105 (σ k) = nI (du (σ k)) := p4
      rw [vqT (show σ k * 5 < 30 by omega) (by omega), vqT (show σ k * 5 + 1 < 30 by omega) (by omega), vqT (show σ k * 5 + 2 < 30 by omega) (by omega), vqT (show σ k * 5 + 3 < 30 by omega) (by omega), q1, q2, nI_add, j_max0 (by omega) (by omega), bd_s, vqT (show σ k * 5 + 4 < 30 by omega) (by omega), nI_clamp (by omega), nI_clamp (by omega), nI_clamp (by omega), nI_clamp (by omega), nI_clamp (by omega)]
      simp only [cond_true, nI_io1, nI_add]
      rw [hI1]
    cases hc : chg col σ k with
    | false => exact e78 0 (by rw [nI_add, cnt, hc]; rfl)
    | true => exact e78 1 (by rw [nI_add, cnt, hc]; rfl)
/-- the model's run of an order -/
theorem m_runs17 {a : Nat} (ha : a = 173 ∨ a = 174) (hb : JB n col pr bi du ch dr) : ∀ (d k N : Nat) (I : pm_II), k + d = n → d < N → JM n col pr bi du ch dr I → (∀ j, j < n → I a j = nI (σ j) ∧ σ j < n) → I 120 90 = nI (cnt (chg col σ) k) → I 120 88 = nI (tl col pr bi du ch dr σ k).2.2 → (injP σ n → ∀ j w, j < k → w < 5 → I 175 (5 * σ j + w) = nI (tv col pr bi du ch dr σ j w)) → ∃ I2, F_Mo_runs_17 u N a (nI (tl col pr bi du ch dr σ k).1) (nI (tl col pr bi du ch dr σ k).2.1) (nI k) I J = some ((), I2, J) ∧ I2 120 90 = nI (cnt (chg col σ) n) ∧ I2 120 88 = nI (tl col pr bi du ch dr σ n).2.2 ∧ I2 120 89 = nI (tl col pr bi du ch dr σ n).2.1 ∧ (injP σ n → ∀ j w, j < n → w < 5 → I2 175 (5 * σ j + w) = nI (tv col pr bi du ch dr σ j w)) ∧ On (fun c k => (c = 120 ∧ (88 ≤ k ∧ k ≤ 90)) ∨ c = 175) I I2 := by
  have hn := hb.1
  intro d
  induction d with
  | zero =>
    intro k N I hk hN hj hr h90 h88 h175
    obtain ⟨N, rfl⟩ : ∃ z, N = z + 1 := ⟨N - 1, by omega⟩
    have : k = n := by omega
    subst this
    refine ⟨pm_up I 120 89 (nI (tl col pr bi du ch dr σ k).2.1), ?_, h90, h88, by simp [ur], h175, On.up (On.refl _) (by omega)⟩
    rw [F_Mo_runs_17, hj.1, if_pos (by rw [nI_leI (by omega) (by omega)]; omega)]
  | succ d ih =>
    intro k N I hk hN hj hr h90 h88 h175
    obtain ⟨N, rfl⟩ : ∃ z, N = z + 1 := ⟨N - 1, by omega⟩
    have hkn : k < n := by omega
    obtain ⟨r1, r2⟩ := hr k hkn
    obtain ⟨p1, p2, p3, p4⟩ := hj.2.2.2 (σ k) r2
    have b0 := hb.2.1 (σ k)
    obtain ⟨t1, t2, t3⟩ := tl_b hb σ k (by omega)
    obtain ⟨t4, t5, t6⟩ := tl_b hb σ (k + 1) (by omega)
    have hcnt := cnt_le (G := chg col σ) k
    have hdr := hb.2.2.2
    have eT : tl col pr bi du ch dr σ (k + 1) = ((tl col pr bi du ch dr σ k).1 + cond (chg col σ k) ch 0 + pr (σ k), max ((tl col pr bi du ch dr σ k).1 + cond (chg col σ k) ch 0 + pr (σ k) + dr) (tl col pr bi du ch dr σ k).2.1 + bi (σ k), (tl col pr bi du ch dr σ k).2.2 + (max ((tl col pr bi du ch dr σ k).1 + cond (chg col σ k) ch 0 + pr (σ k) + dr) (tl col pr bi du ch dr σ k).2.1 + bi (σ k) - du (σ k))) := rfl
    have v0 : tv col pr bi du ch dr σ k 0 = (tl col pr bi du ch dr σ k).1 + cond (chg col σ k) ch 0 := rfl
    have v1 : tv col pr bi du ch dr σ k 1 = (tl col pr bi du ch dr σ k).1 + cond (chg col σ k) ch 0 + pr (σ k) := rfl
    have v2 : tv col pr bi du ch dr σ k 2 = max ((tl col pr bi du ch dr σ k).1 + cond (chg col σ k) ch 0 + pr (σ k) + dr) (tl col pr bi du ch dr σ k).2.1 := rfl
    have v3 : tv col pr bi du ch dr σ k 3 = max ((tl col pr bi du ch dr σ k).1 + cond (chg col σ k) ch 0 + pr (σ k) + dr) (tl col pr bi du ch dr σ k).2.1 + bi (σ k) := rfl
    have v4 : tv col pr bi du ch dr σ k 4 = max ((tl col pr bi du ch dr σ k).1 + cond (chg col σ k) ch 0 + pr (σ k) + dr) (tl col pr bi du ch dr σ k).2.1 + bi (σ k) - du (σ k) := rfl
    have hcg : cond (chg col σ k) ch 0 ≤ 50 := by have := hb.2.2.1; cases chg col σ k <;> simp <;> omega
    generalize hcgv : cond (chg col σ k) ch 0 = cg at *
    generalize hTk : tl col pr bi du ch dr σ k = T at *
    generalize hI1 : pm_up (pm_up (pm_up (pm_up (pm_up (pm_up (pm_up I 120 90 (nI (cnt (chg col σ) (k + 1)))) 175 (5 * σ k) (nI (T.1 + cg))) 175 (5 * σ k + 1) (nI (T.1 + cg + pr (σ k)))) 175 (5 * σ k + 2) (nI (max (T.1 + cg + pr (σ k) + dr) T.2.1))) 175 (5 * σ k + 3) (nI (max (T.1 + cg + pr (σ k) + dr) T.2.1 + bi (σ k)))) 175 (5 * σ k + 4) (nI (max (T.1 + cg + pr (σ k) + dr) T.2.1 + bi (σ k) - du (σ k)))) 120 88 (nI (T.2.2 + (max (T.1 + cg + pr (σ k) + dr) T.2.1 + bi (σ k) - du (σ k)))) = I1
    have o1 : On (fun c x => (c = 120 ∧ (88 ≤ x ∧ x ≤ 90)) ∨ (c = 175 ∧ (5 * σ k ≤ x ∧ x < 5 * σ k + 5))) I I1 := by
      rw [← hI1]
      refine On.up (On.up (On.up (On.up (On.up (On.up (On.up (On.refl _) ?_) ?_) ?_) ?_) ?_) ?_) ?_ <;> omega
    have hj1 : JM n col pr bi du ch dr I1 := hj.on o1 (by omega) (by omega) (by omega) (fun c x h1 h2 => by omega)
    have h175' : injP σ n → ∀ j w, j < k + 1 → w < 5 → I1 175 (5 * σ j + w) = nI (tv col pr bi du ch dr σ j w) := by
      intro hinj j w hjk hw
      by_cases q : j = k
      · subst q
        have : w = 0 ∨ w = 1 ∨ w = 2 ∨ w = 3 ∨ w = 4 := by omega
        rw [← hI1]
        rcases this with rfl | rfl | rfl | rfl | rfl
        · rw [v0]; simp [ur]
        · rw [v1]; simp [ur]
        · rw [v2]; simp [ur]
        · rw [v3]; simp [ur]
        · rw [v4]; simp [ur]
      · have hne : σ j ≠ σ k := fun e => q (hinj j k (by omega) (by omega) e)
        rw [o1 175 (5 * σ j + w) (by omega)]
        exact h175 hinj j w (by omega) hw
    obtain ⟨I2, i1, i2, i3, i4, i5, i6⟩ := ih (k + 1) N I1 (by omega) (by omega) hj1 (fun j hj2 => by rw [o1 a j (by omega)]; exact hr j hj2) (by rw [← hI1]; simp [ur]) (by rw [← hI1, eT]; simp [ur]) h175'
    refine ⟨I2, ?_, i2, i3, i4, i5, (o1.mono (fun c x hc => by omega)).trans i6⟩
    rw [eT] at i1
    dsimp only at i1
    rw [← i1]
    have e98 : ∀ s1 s2 : Nat, s1 = cg → nI (cnt (chg col σ) k) + nI s2 = nI (cnt (chg col σ) (k + 1)) → F_Mo_runs_98 u (F_Mo_runs_17 u N) a (nI T.2.1) (nI k) (nI (σ k)) (nI T.1) (nI s1) (pm_up I 120 90 (nI (cnt (chg col σ) k) + nI s2)) J = F_Mo_runs_17 u N a (nI (T.1 + cg + pr (σ k))) (nI (max (T.1 + cg + pr (σ k) + dr) T.2.1 + bi (σ k))) (nI (k + 1)) I1 J := by
      intro s1 s2 hs1 hs2
      subst hs1
      unfold F_Mo_runs_98
      have q0 : ∀ X : Int32, (pm_up I 120 90 X) 170 (σ k) = nI (pr (σ k)) := fun X => p2
      have q1 : ∀ X : Int32, (pm_up I 120 90 X) 171 (σ k) = nI (bi (σ k)) := fun X => p3
      have q2 : ∀ X : Int32, (pm_up I 120 90 X) 172 (σ k) = nI (du (σ k)) := fun X => p4
      have q3 : ∀ X : Int32, (pm_up I 120 90 X) 120 87 = nI dr := fun X => hj.2.2.1
      rw [vqT (show σ k < 6 by omega) (by omega), nI_clamp (by omega), hs2, q0, q3, nI_add, nI_add, nI_add, j_maxN (by omega) (by omega), bd_s, show (5 : Int32) = nI 5 from rfl, pk_mul, Nat.max_comm]
      simp only [cond_true, nl_1, nl_2, nl_3, nl_4, nI_add]
      rw [vqT (show 5 * σ k < 30 by omega) (by omega), vqT (show 5 * σ k + 1 < 30 by omega) (by omega), vqT (show 5 * σ k + 2 < 30 by omega) (by omega), vqT (show 5 * σ k + 3 < 30 by omega) (by omega), q1, q2, nI_add, j_max0 (by omega) (by omega), bd_s, vqT (show 5 * σ k + 4 < 30 by omega) (by omega), nI_clamp (by omega), nI_clamp (by omega), nI_clamp (by omega), nI_clamp (by omega), nI_clamp (by omega)]
      simp only [cond_true, nI_io1, nI_add, ur, and_true, if_true, Nat.reduceEqDiff, false_and, and_false, if_false]
      rw [h88, nI_add, hI1]
    have e80 : ∀ (t : Bool), t = chg col σ k → F_Mo_runs_63 u (F_Mo_runs_17 u N) a (nI T.1) (nI T.2.1) (nI k) (nI (σ k)) (b2i t) I J = F_Mo_runs_17 u N a (nI (T.1 + cg + pr (σ k))) (nI (max (T.1 + cg + pr (σ k) + dr) T.2.1 + bi (σ k))) (nI (k + 1)) I1 J := by
      intro t ht
      unfold F_Mo_runs_63 F_Mo_runs_80
      rw [h90, hj.2.1]
      cases t with
      | false =>
        rw [← ht] at hcgv
        exact e98 0 0 hcgv (by rw [nI_add, cnt, ← ht]; rfl)
      | true =>
        rw [← ht] at hcgv
        exact e98 ch 1 hcgv (by rw [nI_add, cnt, ← ht]; rfl)
    rw [F_Mo_runs_17, hj.1, if_neg (by rw [nI_leI (by omega) (by omega)]; omega), vqT (show k < 6 by omega) (by omega), cond_true, nI_clamp (by omega), r1]
    by_cases c : k = 0
    · subst c
      rw [if_pos (by decide)]
      exact e80 false rfl
    · obtain ⟨r3, r4⟩ := hr (k - 1) (by omega)
      have c1 := (hb.2.1 (σ (k - 1))).1
      rw [nl_0, if_neg (by rw [nI_leI (by omega) (by omega)]; omega), nl_1, pk_sub (by omega), nI_clamp (by omega), vqT (show k - 1 < 6 by omega) (by omega), r3, nI_clamp (by omega), nI_clamp (by omega), vqT (show σ k < 6 by omega) (by omega), vqT (show σ (k - 1) < 6 by omega) (by omega), p1, (hj.2.2.2 _ r4).1]
      simp only [cond_true]
      by_cases q : col (σ k) = col (σ (k - 1))
      · rw [if_pos (by rw [q])]
        exact e80 false (by unfold chg; rw [decide_eq_false (by omega)])
      · rw [if_neg (by rw [nI_eq (by omega) (by omega)]; exact q)]
        exact e80 true (by unfold chg; rw [decide_eq_true (by omega)])
theorem m_runs {a : Nat} {I : pm_II} (hu : 20 ≤ u) (ha : a = 173 ∨ a = 174) (hb : JB n col pr bi du ch dr) (hj : JM n col pr bi du ch dr I) (hr : ∀ j, j < n → I a j = nI (σ j) ∧ σ j < n) : ∃ I2, F_Mo_runs u a I J = some ((), I2, J) ∧ I2 120 90 = nI (cnt (chg col σ) n) ∧ I2 120 88 = nI (tl col pr bi du ch dr σ n).2.2 ∧ I2 120 89 = nI (tl col pr bi du ch dr σ n).2.1 ∧ (injP σ n → ∀ j w, j < n → w < 5 → I2 175 (5 * σ j + w) = nI (tv col pr bi du ch dr σ j w)) ∧ On (fun c k => (c = 120 ∧ (88 ≤ k ∧ k ≤ 90)) ∨ c = 175) I I2 := by
  have hn := hb.1
  have o1 : On (fun c k => (c = 120 ∧ (88 ≤ k ∧ k ≤ 90)) ∨ c = 175) I (pm_up (pm_up I 120 88 0) 120 90 0) := by
    refine On.up (On.up (On.refl _) ?_) ?_ <;> omega
  obtain ⟨I2, i1, i2, i3, i4, i5, i6⟩ := m_runs17 (u := u) (J := J) (σ := σ) ha hb n 0 u (pm_up (pm_up I 120 88 0) 120 90 0) (by omega) (by omega) (hj.on o1 (by omega) (by omega) (by omega) (fun c x h1 h2 => by omega)) (fun j hj2 => by rw [o1 a j (by omega)]; exact hr j hj2) rfl rfl (fun _ j w hj2 => by omega)
  exact ⟨I2, i1, i2, i3, i4, i5, o1.trans i6⟩
end Runs2
