/-! ===== jobs: the calls ===== -/
def P8 (I : pm_II) : Prop := ∃ n col pr bi du ch dr, JB n col pr bi du ch dr ∧ JC n col pr bi du ch dr I ∧ JM n col pr bi du ch dr I ∧ ((I 101 14 = 0 ∧ CV n col pr bi du ch dr I) ∨ I 101 14 = 1) ∧ ((I 120 91 = 1 ∧ MV n col pr bi du ch dr I) ∨ I 120 91 = 0)
def k8 (c k : Nat) : Prop := (101 ≤ c ∧ c ≤ 109) ∨ (169 ≤ c ∧ c ≤ 175) ∨ (c = 120 ∧ 85 ≤ k ∧ k ≤ 91)
theorem own120_8 : ∀ k, k < 92 → 85 ≤ k → own 120 k = 8 := by decide +kernel
theorem k8_own {c k : Nat} (h : k8 c k) : own c k = 0 ∨ own c k = 8 := by
  rcases h with h | h | ⟨rfl, h1, h2⟩
  · exact Or.inr (own8 (by omega))
  · exact Or.inr (own8 (by omega))
  · exact Or.inr (own120_8 k (by omega) h1)
theorem Ptape_k8 {I I2 : pm_II} (o : On k8 I I2) (h : Ptape I) : Ptape I2 := Ptape.on o (by unfold k8; omega) (by unfold k8; omega) (fun j => by unfold k8; omega) (fun j => by unfold k8; omega) h
def St8 (fc fm : pm_II → pm_JJ → Option (Int32 × pm_II × pm_JJ)) (I : pm_II) (J : pm_JJ) : Prop := ∃ v I1 I2, fc I J = some (v, I1, J) ∧ fm I1 J = some (v, I2, J) ∧ P8 I2 ∧ Fr 8 I I2 ∧ (Ptape I → Ptape I2)
theorem JC.lo {n : Nat} {col pr bi du : Nat → Nat} {ch dr : Nat} {I I2 : pm_II} (h : JC n col pr bi du ch dr I) (o : On cHi I I2) : JC n col pr bi du ch dr I2 := h.on o (by unfold cHi; omega) (by unfold cHi; omega) (by unfold cHi; omega) (fun c k h1 h2 => by unfold cHi; omega)
theorem JM.hi {n : Nat} {col pr bi du : Nat → Nat} {ch dr : Nat} {I I2 : pm_II} (h : JM n col pr bi du ch dr I) (o : On cLo I I2) : JM n col pr bi du ch dr I2 := h.on o (by unfold cLo; omega) (by unfold cLo; omega) (by unfold cLo; omega) (fun c k h1 h2 => by unfold cLo; omega)
theorem CV.lo {n : Nat} {col pr bi du : Nat → Nat} {ch dr : Nat} {I I2 : pm_II} (h : CV n col pr bi du ch dr I) (o : On cHi I I2) : CV n col pr bi du ch dr I2 := by
  obtain ⟨v, a, b, c, d, e, f, g, k⟩ := h
  have o' : ∀ c k, c < 120 → I2 c k = I c k := fun c k hc => o c k (fun z => by unfold cHi at z; omega)
  exact ⟨v, a, b, c, by rw [o' _ _ (by omega)]; exact d, by rw [o' _ _ (by omega)]; exact e, by rw [o' _ _ (by omega)]; exact f, fun x hx => by rw [o' _ _ (by omega)]; exact g x hx, fun j w h1 h2 => by rw [o' _ _ (by omega)]; exact k j w h1 h2⟩
theorem MV.hi {n : Nat} {col pr bi du : Nat → Nat} {ch dr : Nat} {I I2 : pm_II} (h : MV n col pr bi du ch dr I) (o : On cLo I I2) : MV n col pr bi du ch dr I2 := by
  obtain ⟨v, a, b, c, d, e, f, g, k⟩ := h
  have o' : ∀ c k, 120 ≤ c → I2 c k = I c k := fun c k hc => o c k (fun z => by unfold cLo at z; omega)
  exact ⟨v, a, b, c, by rw [o' _ _ (by omega)]; exact d, by rw [o' _ _ (by omega)]; exact e, by rw [o' _ _ (by omega)]; exact f, fun x hx => by rw [o' _ _ (by omega)]; exact g x hx, fun j w h1 h2 => by rw [o' _ _ (by omega)]; exact k j w h1 h2⟩
section Jobs
variable {u : Nat} {I : pm_II} {J : pm_JJ}
theorem st8_same {fc fm : pm_II → pm_JJ → Option (Int32 × pm_II × pm_JJ)} (h : P8 I) {v : Int32} (h1 : fc I J = some (v, I, J)) (h2 : fm I J = some (v, I, J)) : St8 fc fm I J := ⟨v, I, I, h1, h2, h, Fr.refl _ _, id⟩
theorem st_times {x y : Int32} (h : P8 I) : St8 (F_Wo_allow u x y) (F_Mo_times u x y) I J := by
  have hP := h
  obtain ⟨n, col, pr, bi, du, ch, dr, hb, hc, hm, h14, h91⟩ := h
  have e1 : F_Wo_allow u x y I J = cond (rgb x 0 50) (cond (rgb y 0 50) (some (1, (pm_up (pm_up (pm_up I 101 9 x) 101 10 y) 101 14 1), J)) (some (-1, I, J))) (some (-1, I, J)) := by
    unfold F_Wo_allow
    rw [rgb_if1, rgb_if2]
  have e2 : ∀ I1, F_Mo_times u x y I1 J = cond (rgb x 0 50) (cond (rgb y 0 50) (some (1, (pm_up (pm_up (pm_up I1 120 86 x) 120 87 y) 120 91 0), J)) (some (-1, I1, J))) (some (-1, I1, J)) := by
    intro I1
    unfold F_Mo_times F_Mo_ordered
    rw [m_isB, bd_s, b2i_if0, m_isB, bd_s, b2i_ifn, bd_s]
  cases hx : rgb x 0 50 with
  | false =>
    rw [hx] at e1
    exact st8_same hP e1 (by rw [e2 I, hx]; rfl)
  | true =>
    cases hy : rgb y 0 50 with
    | false =>
      rw [hx, hy] at e1
      exact st8_same hP e1 (by rw [e2 I, hx, hy]; rfl)
    | true =>
      obtain ⟨a, _, ha, rfl⟩ := rgb_n (lo := 0) (hi := 50) (by omega) (by omega) hx
      obtain ⟨t, _, ht, rfl⟩ := rgb_n (lo := 0) (hi := 50) (by omega) (by omega) hy
      rw [hx, hy] at e1
      have o : On k8 I (pm_up (pm_up (pm_up (pm_up (pm_up (pm_up I 101 9 (nI a)) 101 10 (nI t)) 101 14 1) 120 86 (nI a)) 120 87 (nI t)) 120 91 0) := by
        refine On.up (On.up (On.up (On.up (On.up (On.up (On.refl _) ?_) ?_) ?_) ?_) ?_) ?_ <;> (unfold k8; omega)
      refine ⟨_, _, pm_up (pm_up (pm_up (pm_up (pm_up (pm_up I 101 9 (nI a)) 101 10 (nI t)) 101 14 1) 120 86 (nI a)) 120 87 (nI t)) 120 91 0, e1, ?_, ⟨n, col, pr, bi, du, a, t, ⟨hb.1, hb.2.1, ha, ht⟩, ⟨hc.1, rfl, rfl, hc.2.2.2⟩, ⟨hm.1, rfl, rfl, hm.2.2.2⟩, Or.inr rfl, Or.inr rfl⟩, o.fr (fun c k z => k8_own z), Ptape_k8 o⟩
      rw [e2, hx, hy]
      rfl
theorem st_job {x y z w : Int32} (h : P8 I) : St8 (F_Wo_add u x y z w) (F_Mo_job u x y z w) I J := by
  have hP := h
  obtain ⟨n, col, pr, bi, du, ch, dr, hb, hc, hm, h14, h91⟩ := h
  have hn := hb.1
  have e1 : F_Wo_add u x y z w I J = cond (rgb x 0 3) (cond (rgb w 0 999) (cond (rgb y 1 99) (cond (rgb z 1 99) (if nI n < 6 then cond (vq (nI n) 6) (cond (vq (nI n) 6) (cond (vq (nI n) 6) (cond (vq (nI n) 6) (some (nI n + 1 - 1, (pm_up (pm_up (pm_up (pm_up (pm_up (pm_up I 102 ((nI n).toNatClampNeg) x) 103 ((nI n).toNatClampNeg) y) 104 ((nI n).toNatClampNeg) z) 105 ((nI n).toNatClampNeg) w) 101 8 (nI n + 1)) 101 14 1), J)) none) none) none) none else some (-4, I, J)) (some (-1, I, J))) (some (-1, I, J))) (some (-1, I, J))) (some (-1, I, J)) := by
    unfold F_Wo_add
    rw [rgb_if1, rgb_if2, rgb_if1, rgb_if2, hc.1]
  have e2 : ∀ I1 : pm_II, I1 120 85 = nI n → F_Mo_job u x y z w I1 J = cond (rgb x 0 3) (cond (rgb y 1 99) (cond (rgb z 1 99) (cond (rgb w 0 999) (if ¬ nI n = 6 then cond (vq (nI n) 6) (cond (vq (nI n) 6) (cond (vq (nI n) 6) (cond (vq (nI n) 6) (some (nI n + 1 - 1, (pm_up (pm_up (pm_up (pm_up (pm_up (pm_up I1 169 ((nI n).toNatClampNeg) x) 170 ((nI n).toNatClampNeg) y) 171 ((nI n).toNatClampNeg) z) 172 ((nI n).toNatClampNeg) w) 120 85 (nI n + 1)) 120 91 0), J)) none) none) none) none else some (-4, I1, J)) (some (-1, I1, J))) (some (-1, I1, J))) (some (-1, I1, J))) (some (-1, I1, J)) := by
    intro I1 h85
    unfold F_Mo_job F_Mo_ordered
    rw [m_isB, bd_s, b2i_if0, m_isB, bd_s, b2i_if0, m_isB, bd_s, b2i_if0, m_isB, bd_s, b2i_ifn, bd_s, h85]
    rfl
  cases hx : rgb x 0 3 with
  | false =>
    rw [hx] at e1
    exact st8_same hP e1 (by rw [e2 I hm.1, hx]; rfl)
  | true =>
    cases hy : rgb y 1 99 with
    | false =>
      refine st8_same (v := -1) hP ?_ ?_
      · rw [e1, hx, hy]; cases rgb w 0 999 <;> rfl
      · rw [e2 I hm.1, hx, hy]; rfl
    | true =>
      cases hz : rgb z 1 99 with
      | false =>
        refine st8_same (v := -1) hP ?_ ?_
        · rw [e1, hx, hy, hz]; cases rgb w 0 999 <;> rfl
        · rw [e2 I hm.1, hx, hy, hz]; rfl
      | true =>
        cases hw : rgb w 0 999 with
        | false =>
          refine st8_same (v := -1) hP ?_ ?_
          · rw [e1, hx, hw]; rfl
          · rw [e2 I hm.1, hx, hy, hz, hw]; rfl
        | true =>
          rw [hx, hy, hz, hw] at e1
          simp only [cond_true] at e1
          by_cases q : n = 6
          · have q1 : ¬ nI n < 6 := by rw [q]; decide
            have q2 : ¬ ¬ nI n = 6 := by rw [q]; decide
            rw [if_neg q1] at e1
            refine st8_same hP e1 ?_
            rw [e2 I hm.1, hx, hy, hz, hw]
            simp only [cond_true]
            rw [if_neg q2]
          · have q1 : nI n < 6 := by rw [show (6 : Int32) = nI 6 from rfl, nI_ltI (by omega) (by omega)]; omega
            have q2 : ¬ nI n = 6 := by rw [show (6 : Int32) = nI 6 from rfl, nI_eq (by omega) (by omega)]; omega
            obtain ⟨a, _, ha, rfl⟩ := rgb_n (lo := 0) (hi := 3) (by omega) (by omega) hx
            obtain ⟨p, _, hp, rfl⟩ := rgb_n (lo := 1) (hi := 99) (by omega) (by omega) hy
            obtain ⟨b, _, hbb, rfl⟩ := rgb_n (lo := 1) (hi := 99) (by omega) (by omega) hz
            obtain ⟨d, _, hd, rfl⟩ := rgb_n (lo := 0) (hi := 999) (by omega) (by omega) hw
            rw [if_pos q1, vqT (show n < 6 by omega) (by omega), nI_clamp (by omega), nI_1] at e1
            simp only [cond_true] at e1
            generalize hI1 : pm_up (pm_up (pm_up (pm_up (pm_up (pm_up I 102 n (nI a)) 103 n (nI p)) 104 n (nI b)) 105 n (nI d)) 101 8 (nI (n + 1))) 101 14 1 = I1 at e1
            have o1 : On cLo I I1 := by
              rw [← hI1]
              refine On.up (On.up (On.up (On.up (On.up (On.up (On.refl _) ?_) ?_) ?_) ?_) ?_) ?_ <;> (unfold cLo; omega)
            have h85 : I1 120 85 = nI n := by rw [o1 120 85 (by unfold cLo; omega)]; exact hm.1
            have o : On k8 I (pm_up (pm_up (pm_up (pm_up (pm_up (pm_up I1 169 n (nI a)) 170 n (nI p)) 171 n (nI b)) 172 n (nI d)) 120 85 (nI (n + 1))) 120 91 0) := by
              rw [← hI1]
              refine On.up (On.up (On.up (On.up (On.up (On.up (On.up (On.up (On.up (On.up (On.up (On.up (On.refl _) ?_) ?_) ?_) ?_) ?_) ?_) ?_) ?_) ?_) ?_) ?_) ?_ <;> (unfold k8; omega)
            refine ⟨_, I1, pm_up (pm_up (pm_up (pm_up (pm_up (pm_up I1 169 n (nI a)) 170 n (nI p)) 171 n (nI b)) 172 n (nI d)) 120 85 (nI (n + 1))) 120 91 0, e1, ?_, ⟨n + 1, fun k => if k = n then a else col k, fun k => if k = n then p else pr k, fun k => if k = n then b else bi k, fun k => if k = n then d else du k, ch, dr, ⟨by omega, fun j => ?_, hb.2.2⟩, ⟨?_, ?_, ?_, fun i hi => ?_⟩, ⟨?_, ?_, ?_, fun i hi => ?_⟩, Or.inr ?_, Or.inr ?_⟩, o.fr (fun c k z => k8_own z), Ptape_k8 o⟩
            · rw [e2 I1 h85, hx, hy, hz, hw]
              simp only [cond_true]
              rw [if_pos q2, vqT (show n < 6 by omega) (by omega), nI_clamp (by omega), nI_1]
              rfl
            · have := hb.2.1 j
              dsimp only
              refine ⟨?_, ?_, ?_, ?_⟩ <;> split <;> omega
            · rw [← hI1]; rfl
            · rw [← hI1]; exact hc.2.1
            · rw [← hI1]; exact hc.2.2.1
            · rw [← hI1]
              simp only [ur, Nat.reduceEqDiff, false_and, if_false, true_and]
              by_cases q3 : i = n
              · simp [q3]
              · simp only [q3, if_false]; exact hc.2.2.2 i (by omega)
            · rfl
            · rw [← hI1]; exact hm.2.1
            · rw [← hI1]; exact hm.2.2.1
            · rw [← hI1]
              simp only [ur, Nat.reduceEqDiff, false_and, if_false, true_and]
              by_cases q3 : i = n
              · simp [q3]
              · simp only [q3, if_false]; exact hm.2.2.2 i (by omega)
            · rw [← hI1]; rfl
            · rfl
theorem w_rem22 {n : Nat} (hn : n ≤ 6) : ∀ (d k N : Nat) (I : pm_II), k + d + 1 = n → d < N → I 101 8 = nI (n - 1) → ∃ I2, F_Wo_remove_22 u N (nI k) I J = some (nI (n - 1), I2, J) ∧ (∀ c j, 102 ≤ c → c ≤ 105 → I2 c j = if k ≤ j ∧ j < n - 1 then I c (j + 1) else I c j) ∧ I2 101 14 = 1 ∧ On (fun c k => (c = 101 ∧ k = 14) ∨ (102 ≤ c ∧ c ≤ 105)) I I2 := by
  intro d
  induction d with
  | zero =>
    intro k N I hk hN h8
    obtain ⟨N, rfl⟩ : ∃ z, N = z + 1 := ⟨N - 1, by omega⟩
    refine ⟨pm_up I 101 14 1, ?_, fun c j h1 h2 => ?_, rfl, On.up (On.refl _) (by omega)⟩
    · rw [F_Wo_remove_22, h8, if_pos (by rw [nI_leI (by omega) (by omega)]; omega)]
    · rw [ur, if_neg (by omega), if_neg (by omega)]
  | succ d ih =>
    intro k N I hk hN h8
    obtain ⟨N, rfl⟩ : ∃ z, N = z + 1 := ⟨N - 1, by omega⟩
    generalize hI1 : pm_up (pm_up (pm_up (pm_up I 102 k (I 102 (k + 1))) 103 k (I 103 (k + 1))) 104 k (I 104 (k + 1))) 105 k (I 105 (k + 1)) = I1
    have h1 : ∀ c j, 102 ≤ c → c ≤ 105 → I1 c j = if j = k then I c (k + 1) else I c j := by
      intro c j a b
      have : c = 102 ∨ c = 103 ∨ c = 104 ∨ c = 105 := by omega
      rw [← hI1]
      rcases this with rfl | rfl | rfl | rfl <;> simp [ur]
    have o1 : On (fun c k => (c = 101 ∧ k = 14) ∨ (102 ≤ c ∧ c ≤ 105)) I I1 := by
      rw [← hI1]
      refine On.up (On.up (On.up (On.up (On.refl _) ?_) ?_) ?_) ?_ <;> omega
    obtain ⟨I2, i1, i2, i3, i4⟩ := ih (k + 1) N I1 (by omega) (by omega) (by rw [o1 101 8 (by omega)]; exact h8)
    refine ⟨I2, ?_, fun c j a b => ?_, i3, o1.trans i4⟩
    · rw [F_Wo_remove_22, h8, if_neg (by rw [nI_leI (by omega) (by omega)]; omega), nI_1, nI_clamp (by omega), nI_clamp (by omega), vqT (show k < 6 by omega) (by omega), vqT (show k + 1 < 6 by omega) (by omega)]
      simp only [cond_true]
      rw [hI1, nI_io1, nI_add]
      exact i1
    · rw [i2 c j a b, h1 c _ a b, h1 c _ a b]
      by_cases q : j = k
      · subst q
        rw [if_neg (by omega), if_pos rfl, if_pos (by omega)]
      · by_cases q2 : k + 1 ≤ j ∧ j < n - 1
        · rw [if_pos q2, if_neg (by omega), if_pos (by omega)]
        · rw [if_neg q2, if_neg q, if_neg (by omega)]
theorem m_drop18 {n : Nat} (hn : n ≤ 6) : ∀ (d k N : Nat) (I : pm_II), k + d + 1 = n → d < N → I 120 85 = nI n → ∃ I2, F_Mo_drop_18 u N (nI k) I J = some (nI (n - 1), I2, J) ∧ (∀ c j, 169 ≤ c → c ≤ 172 → I2 c j = if k ≤ j ∧ j < n - 1 then I c (j + 1) else I c j) ∧ I2 120 91 = 0 ∧ I2 120 85 = nI (n - 1) ∧ On (fun c k => (c = 120 ∧ (k = 85 ∨ k = 91)) ∨ (169 ≤ c ∧ c ≤ 172)) I I2 := by
  intro d
  induction d with
  | zero =>
    intro k N I hk hN h8
    obtain ⟨N, rfl⟩ : ∃ z, N = z + 1 := ⟨N - 1, by omega⟩
    refine ⟨pm_up (pm_up I 120 85 (nI (n - 1))) 120 91 0, ?_, fun c j h1 h2 => ?_, rfl, rfl, On.up (On.up (On.refl _) (by omega)) (by omega)⟩
    · rw [F_Mo_drop_18, h8, nI_1, if_pos (by rw [nI_leI (by omega) (by omega)]; omega), nl_1, pk_sub (by omega)]
      rfl
    · rw [ur, if_neg (by omega), ur, if_neg (by omega), if_neg (by omega)]
  | succ d ih =>
    intro k N I hk hN h8
    obtain ⟨N, rfl⟩ : ∃ z, N = z + 1 := ⟨N - 1, by omega⟩
    generalize hI1 : pm_up (pm_up (pm_up (pm_up I 169 k (I 169 (k + 1))) 170 k (I 170 (k + 1))) 171 k (I 171 (k + 1))) 172 k (I 172 (k + 1)) = I1
    have h1 : ∀ c j, 169 ≤ c → c ≤ 172 → I1 c j = if j = k then I c (k + 1) else I c j := by
      intro c j a b
      have : c = 169 ∨ c = 170 ∨ c = 171 ∨ c = 172 := by omega
      rw [← hI1]
      rcases this with rfl | rfl | rfl | rfl <;> simp [ur]
    have o1 : On (fun c k => (c = 120 ∧ (k = 85 ∨ k = 91)) ∨ (169 ≤ c ∧ c ≤ 172)) I I1 := by
      rw [← hI1]
      refine On.up (On.up (On.up (On.up (On.refl _) ?_) ?_) ?_) ?_ <;> omega
    obtain ⟨I2, i1, i2, i3, i4, i5⟩ := ih (k + 1) N I1 (by omega) (by omega) (by rw [← hI1]; exact h8)
    refine ⟨I2, ?_, fun c j a b => ?_, i3, i4, o1.trans i5⟩
    · rw [F_Mo_drop_18, h8, nI_1, if_neg (by rw [nI_leI (by omega) (by omega)]; omega), nI_clamp (by omega), nI_clamp (by omega), vqT (show k < 6 by omega) (by omega), vqT (show k + 1 < 6 by omega) (by omega)]
      simp only [cond_true]
      rw [hI1, nI_io1, nI_add]
      exact i1
    · rw [i2 c j a b, h1 c _ a b, h1 c _ a b]
      by_cases q : j = k
      · subst q
        rw [if_neg (by omega), if_pos rfl, if_pos (by omega)]
      · by_cases q2 : k + 1 ≤ j ∧ j < n - 1
        · rw [if_pos q2, if_neg (by omega), if_pos (by omega)]
        · rw [if_neg q2, if_neg q, if_neg (by omega)]
theorem w_hasR {n : Nat} {x : Int32} (h8 : I 101 8 = nI n) (hn : n ≤ 6) : F_Wo_has u x I J = some (b2i (rng x n), I, J) := by
  by_cases c : x < 0
  · unfold F_Wo_has rng
    rw [if_pos c, decide_eq_false (fun z => Int32.not_le.mpr c z.1)]; rfl
  · obtain ⟨k, hk, rfl⟩ := nI_of c
    rw [w_has h8 hn hk]
    unfold rng
    have e : decide (k < n) = decide (0 ≤ nI k ∧ nI k < nI n) := decide_eq_decide.mpr ⟨fun q => ⟨Int32.not_lt.mp c, by rw [nI_ltI (by omega) (by omega)]; exact q⟩, fun q => by have := q.2; rw [nI_ltI (by omega) (by omega)] at this; exact this⟩
    rw [e]
theorem st_drop {x : Int32} (hu : 100 ≤ u) (h : P8 I) : St8 (F_Wo_remove u x) (F_Mo_drop u x) I J := by
  have hP := h
  obtain ⟨n, col, pr, bi, du, ch, dr, hb, hc, hm, h14, h91⟩ := h
  have hn := hb.1
  have e1 : F_Wo_remove u x I J = cond (rng x n) (F_Wo_remove_22 u u x (pm_up I 101 8 (nI n - 1)) J) (some (-1, I, J)) := by
    unfold F_Wo_remove
    rw [w_hasR hc.1 hn, bd_s, b2i_ifn, hc.1]
  have e2 : ∀ I1 : pm_II, I1 120 85 = nI n → F_Mo_drop u x I1 J = cond (rng x n) (F_Mo_drop_18 u u x I1 J) (some (-1, I1, J)) := by
    intro I1 h85
    unfold F_Mo_drop
    rw [h85, m_isB, bd_s, b2i_ifn, rgb_rng (by omega)]
  cases hx : rng x n with
  | false =>
    rw [hx] at e1
    exact st8_same hP e1 (by rw [e2 I hm.1, hx]; rfl)
  | true =>
    obtain ⟨k, hk, rfl⟩ := rng_n (by omega) hx
    rw [hx, nl_1, pk_sub (by omega)] at e1
    obtain ⟨I1, i1, i2, i3, i4⟩ := w_rem22 (u := u) (J := J) hn (n - 1 - k) k u (pm_up I 101 8 (nI (n - 1))) (by omega) (by omega) rfl
    have o0 : On cLo I I1 := (On.up (On.refl _) (by unfold cLo; omega)).trans (i4.mono (fun c k hc => by unfold cLo; omega))
    have h85 : I1 120 85 = nI n := by rw [o0 120 85 (by unfold cLo; omega)]; exact hm.1
    obtain ⟨I2, j1, j2, j3, j4, j5⟩ := m_drop18 (u := u) (J := J) hn (n - 1 - k) k u I1 (by omega) (by omega) h85
    have o2 : On k8 I I2 := ((On.up (c := 101) (k := 8) (v := nI (n - 1)) (On.refl _) (by unfold k8; omega)).trans (i4.mono (fun c k hc => by unfold k8; omega))).trans (j5.mono (fun c k hc => by unfold k8; omega))
    have lo2 : ∀ c k, c < 120 → I2 c k = I1 c k := fun c k hc => j5 c k (by omega)
    refine ⟨nI (n - 1), I1, I2, e1.trans i1, by rw [e2 I1 h85, hx]; exact j1, ⟨n - 1, fun j => if j < k then col j else col (j + 1), fun j => if j < k then pr j else pr (j + 1), fun j => if j < k then bi j else bi (j + 1), fun j => if j < k then du j else du (j + 1), ch, dr, ⟨by omega, fun j => ?_, hb.2.2⟩, ⟨?_, ?_, ?_, fun i hi => ?_⟩, ⟨j4, ?_, ?_, fun i hi => ?_⟩, Or.inr ?_, Or.inr j3⟩, o2.fr (fun c k z => k8_own z), Ptape_k8 o2⟩
    · have q1 := hb.2.1 j
      have q2 := hb.2.1 (j + 1)
      dsimp only
      refine ⟨?_, ?_, ?_, ?_⟩ <;> split <;> omega
    · rw [lo2 101 8 (by omega), i4 101 8 (by omega)]; rfl
    · rw [lo2 101 9 (by omega), i4 101 9 (by omega)]; exact hc.2.1
    · rw [lo2 101 10 (by omega), i4 101 10 (by omega)]; exact hc.2.2.1
    · rw [lo2 102 i (by omega), lo2 103 i (by omega), lo2 104 i (by omega), lo2 105 i (by omega), i2 102 i (by omega) (by omega), i2 103 i (by omega) (by omega), i2 104 i (by omega) (by omega), i2 105 i (by omega) (by omega)]
      dsimp only
      by_cases q : i < k
      · have q1 : ¬ (k ≤ i ∧ i < n - 1) := by omega
        simp only [q1, q, if_false, if_true]
        exact hc.2.2.2 i (by omega)
      · have q1 : k ≤ i ∧ i < n - 1 := by omega
        simp only [q1, q, if_false, if_true, and_self]
        exact hc.2.2.2 (i + 1) (by omega)
    · rw [j5 120 86 (by omega), o0 120 86 (by unfold cLo; omega)]; exact hm.2.1
    · rw [j5 120 87 (by omega), o0 120 87 (by unfold cLo; omega)]; exact hm.2.2.1
    · have hh : ∀ c j, 169 ≤ c → c ≤ 172 → I2 c j = if k ≤ j ∧ j < n - 1 then I c (j + 1) else I c j := fun c j a b => by
        rw [j2 c j a b, o0 c _ (by unfold cLo; omega), o0 c _ (by unfold cLo; omega)]
      rw [hh 169 i (by omega) (by omega), hh 170 i (by omega) (by omega), hh 171 i (by omega) (by omega), hh 172 i (by omega) (by omega)]
      dsimp only
      by_cases q : i < k
      · have q1 : ¬ (k ≤ i ∧ i < n - 1) := by omega
        simp only [q1, q, if_false, if_true]
        exact hm.2.2.2 i (by omega)
      · have q1 : k ≤ i ∧ i < n - 1 := by omega
        simp only [q1, q, if_false, if_true, and_self]
        exact hm.2.2.2 (i + 1) (by omega)
    · rw [lo2 101 14 (by omega)]; exact i3
/-- both sides find the same -/
theorem both8 {n : Nat} {col pr bi du : Nat → Nat} {ch dr : Nat} (hb : JB n col pr bi du ch dr) {A B : pm_II} (hc : CV n col pr bi du ch dr A) (hm : MV n col pr bi du ch dr B) : A 101 11 = B 120 88 ∧ A 101 12 = B 120 89 ∧ A 101 13 = B 120 90 ∧ (∀ k, k < n → A 106 k = B 173 k) ∧ ∀ i w, i < n → w < 5 → A 109 (5 * i + w) = B 175 (5 * i + w) := by
  obtain ⟨v, a1, a2, ⟨l, o, a3⟩, a4, a5, a6, a7, a8⟩ := hc
  obtain ⟨v', b1, b2, ⟨l', o', b3⟩, b4, b5, b6, b7, b8⟩ := hm
  have e : v = v' := by
    rw [a3] at b3
    injection b3 with b3
    injection b3 with _ b3
    injection b3
  subst e
  refine ⟨by rw [a4, b4], by rw [a5, b5], by rw [a6, b6], fun k hk => by rw [a7 k hk, b7 k hk], fun i w hi hw => ?_⟩
  obtain ⟨k, hk, e⟩ := onto_ex a2 i hi
  rw [← e, a8 k w hk hw, b8 k w hk hw]
/-- both bring their order up to date, the class first -/
theorem fresh8 (hu : 60000 ≤ u) (h : P8 I) : ∃ n col pr bi du ch dr I1, JB n col pr bi du ch dr ∧ F_Wo_refresh u I J = some ((), I1, J) ∧ I1 101 8 = nI n ∧ On kRc I I1 ∧ CV n col pr bi du ch dr I1 ∧ P8 I1 ∧ ∀ X, P8 X → On cLo I1 X → (∀ c k, k8 c k → X c k = I1 c k) → ∃ X2, F_Mo_findOrder u X J = some ((), X2, J) ∧ X2 120 85 = nI n ∧ On kRm X X2 ∧ MV n col pr bi du ch dr X2 ∧ P8 X2 := by
  obtain ⟨n, col, pr, bi, du, ch, dr, hb, hc, hm, h14, h91⟩ := h
  obtain ⟨I1, a1, a2, a3, a4, a5⟩ := w_refresh (u := u) (J := J) (by omega) hb hc h14
  have oL : On cLo I I1 := a5.mono (fun c k hc => by unfold kRc at hc; unfold cLo; omega)
  have hm1 := hm.hi oL
  have h91' : (I1 120 91 = 1 ∧ MV n col pr bi du ch dr I1) ∨ I1 120 91 = 0 := by
    rw [oL 120 91 (by unfold cLo; omega)]
    rcases h91 with ⟨q1, q2⟩ | q
    · exact Or.inl ⟨q1, q2.hi oL⟩
    · exact Or.inr q
  refine ⟨n, col, pr, bi, du, ch, dr, I1, hb, a1, a4.1, a5, a3, ⟨n, col, pr, bi, du, ch, dr, hb, a4, hm1, Or.inl ⟨a2, a3⟩, h91'⟩, fun X _ oX hX => ?_⟩
  have hmX := hm1.hi oX
  have h91X : (X 120 91 = 1 ∧ MV n col pr bi du ch dr X) ∨ X 120 91 = 0 := by
    rw [oX 120 91 (by unfold cLo; omega)]
    rcases h91' with ⟨q1, q2⟩ | q
    · exact Or.inl ⟨q1, q2.hi oX⟩
    · exact Or.inr q
  obtain ⟨X2, b1, b2, b3, b4, b5⟩ := m_findOrder (u := u) (J := J) hu hb hmX h91X
  have oR : ∀ c k, 101 ≤ c → c ≤ 109 → X2 c k = I1 c k := fun c k h1 h2 => by
    rw [b5 c k (by unfold kRm; omega)]; exact hX c k (by unfold k8; omega)
  refine ⟨X2, b1, b4.1, b5, b3, ⟨n, col, pr, bi, du, ch, dr, hb, ?_, b4, Or.inl ⟨by rw [oR 101 14 (by omega) (by omega)]; exact a2, ?_⟩, Or.inl ⟨b2, b3⟩⟩⟩
  · refine ⟨by rw [oR _ _ (by omega) (by omega)]; exact a4.1, by rw [oR _ _ (by omega) (by omega)]; exact a4.2.1, by rw [oR _ _ (by omega) (by omega)]; exact a4.2.2.1, fun i hi => ?_⟩
    rw [oR 102 i (by omega) (by omega), oR 103 i (by omega) (by omega), oR 104 i (by omega) (by omega), oR 105 i (by omega) (by omega)]
    exact a4.2.2.2 i hi
  · obtain ⟨v, c1, c2, c3, c4, c5, c6, c7, c8⟩ := a3
    exact ⟨v, c1, c2, c3, by rw [oR _ _ (by omega) (by omega)]; exact c4, by rw [oR _ _ (by omega) (by omega)]; exact c5, by rw [oR _ _ (by omega) (by omega)]; exact c6, fun x hx => by rw [oR _ _ (by omega) (by omega)]; exact c7 x hx, fun j w h1 h2 => by rw [oR _ _ (by omega) (by omega)]; exact c8 j w h1 h2⟩
theorem kRc_k8 {c k : Nat} (h : kRc c k) : k8 c k := by unfold kRc at h; unfold k8; omega
theorem kRm_k8 {c k : Nat} (h : kRm c k) : k8 c k := by unfold kRm at h; unfold k8; omega
theorem st_order {x : Int32} (hu : 60000 ≤ u) (h : P8 I) : St8 (F_Wo_jobAt u x) (F_Mo_order u x) I J := by
  obtain ⟨n, col, pr, bi, du, ch, dr, I1, hb, a1, a8, a2, a3, a4, a5⟩ := fresh8 (u := u) (J := J) hu h
  obtain ⟨I2, b1, b85, b2, b3, b4⟩ := a5 I1 a4 (On.refl _) (fun _ _ _ => rfl)
  have hn := hb.1
  obtain ⟨g1, g2, g3, g4, g5⟩ := both8 hb a3 b3
  have o2 : On k8 I I2 := (a2.mono (fun c k hc => kRc_k8 hc)).trans (b2.mono (fun c k hc => kRm_k8 hc))
  unfold St8
  unfold F_Wo_jobAt F_Mo_order
  rw [a1, bd_s, w_hasR a8 hn, bd_s, b2i_if0]
  cases hx : rng x n with
  | false =>
    refine ⟨_, I1, I2, rfl, ?_, b4, o2.fr (fun c k z => k8_own z), Ptape_k8 o2⟩
    rw [b1, bd_s, b85, m_isB, bd_s, rgb_rng (by omega), hx]; rfl
  | true =>
    obtain ⟨k, hk, rfl⟩ := rng_n (by omega) hx
    rw [vqT (show k < 6 by omega) (by omega), nI_clamp (by omega), g4 k hk]
    refine ⟨_, I1, I2, rfl, ?_, b4, o2.fr (fun c k z => k8_own z), Ptape_k8 o2⟩
    rw [b1, bd_s, b85, m_isB, bd_s, rgb_rng (by omega), hx]
    rfl
theorem st_when {x y : Int32} (hu : 60000 ≤ u) (h : P8 I) : St8 (F_Wo_tell u x y) (F_Mo_when u x y) I J := by
  obtain ⟨n, col, pr, bi, du, ch, dr, I1, hb, a1, a8, a2, a3, a4, a5⟩ := fresh8 (u := u) (J := J) hu h
  obtain ⟨I2, b1, b85, b2, b3, b4⟩ := a5 I1 a4 (On.refl _) (fun _ _ _ => rfl)
  have hn := hb.1
  obtain ⟨g1, g2, g3, g4, g5⟩ := both8 hb a3 b3
  have o2 : On k8 I I2 := (a2.mono (fun c k hc => kRc_k8 hc)).trans (b2.mono (fun c k hc => kRm_k8 hc))
  have r5 : ∀ A B : Option (Int32 × pm_II × pm_JJ), (if y < 0 then A else if (5 : Int32) ≤ y then A else B) = cond (rgb y 0 4) B A := by
    intro A B
    rw [← rgb_if1]
    by_cases c : y < 0
    · rw [if_pos c, if_pos c]
    · obtain ⟨k, hk, rfl⟩ := nI_of c
      rw [if_neg c, if_neg c, nl_5, nl_4]
      by_cases d : 5 ≤ k
      · rw [if_pos (by rw [nI_leI (by omega) (by omega)]; exact d), if_pos (by rw [nI_ltI (by omega) (by omega)]; omega)]
      · rw [if_neg (by rw [nI_leI (by omega) (by omega)]; exact d), if_neg (by rw [nI_ltI (by omega) (by omega)]; omega)]
  unfold St8
  unfold F_Wo_tell F_Mo_when
  rw [a1, bd_s, w_hasR a8 hn, bd_s, b2i_if0, r5]
  have em : ∀ Z, Z = some (b2i (rng x n), I2, J) → True := fun _ _ => trivial
  cases hx : rng x n with
  | false =>
    refine ⟨_, I1, I2, rfl, ?_, b4, o2.fr (fun c k z => k8_own z), Ptape_k8 o2⟩
    rw [b1, bd_s, b85, m_isB, bd_s, rgb_rng (by omega), hx]; rfl
  | true =>
    obtain ⟨k, hk, rfl⟩ := rng_n (by omega) hx
    cases hy : rgb y 0 4 with
    | false =>
      refine ⟨_, I1, I2, rfl, ?_, b4, o2.fr (fun c k z => k8_own z), Ptape_k8 o2⟩
      rw [b1, bd_s, b85, m_isB, bd_s, rgb_rng (by omega), hx, if_neg (by decide), m_isB, bd_s, hy]; rfl
    | true =>
      obtain ⟨w, _, hw, rfl⟩ := rgb_n (lo := 0) (hi := 4) (by omega) (by omega) hy
      rw [nl_5, pk_mul, nI_add, vqT (show k * 5 + w < 30 by omega) (by omega), nI_clamp (by omega), Nat.mul_comm k, g5 k w hk (by omega)]
      refine ⟨_, I1, I2, rfl, ?_, b4, o2.fr (fun c k z => k8_own z), Ptape_k8 o2⟩
      rw [b1, bd_s, b85, m_isB, bd_s, rgb_rng (by omega), hx, if_neg (by decide), m_isB, bd_s, hy, if_neg (by decide), pk_mul, nI_add, vqT (show 5 * k + w < 30 by omega) (by omega), nI_clamp (by omega)]
      rfl
end Jobs
