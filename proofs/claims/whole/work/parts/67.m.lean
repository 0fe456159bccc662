/-! ===== number ===== -/
section Num
variable {u : Nat} {I : pm_II} {J : pm_JJ}
theorem ushr_v {n m : Nat} (hn : n < 2 ^ 32) (hm : m < 32) : ((nI n).toUInt32 >>> ((nI m).toUInt32 &&& Int32.toUInt32 31)).toInt32 = nI (n / 2 ^ m) := by
  have h : ∀ j : Fin 32, (((nI j.val).toUInt32 &&& Int32.toUInt32 31).toBitVec % 32).toNat = j.val := by decide +kernel
  exact pk_ushrN hn (nI m) m (h ⟨m, hm⟩)
theorem mask_v {m : Nat} (hm : m < 32) : ((((-1) : Int32)).toUInt32 >>> ((((31 : Int32) - nI m)).toUInt32 &&& Int32.toUInt32 31)).toInt32 = nI (2 ^ (m + 1) - 1) := by
  have h : ∀ j : Fin 32, ((((-1) : Int32)).toUInt32 >>> ((((31 : Int32) - nI j.val)).toUInt32 &&& Int32.toUInt32 31)).toInt32 = nI (2 ^ (j.val + 1) - 1) := by decide +kernel
  exact h ⟨m, hm⟩
theorem lsb_n {x : Int32} {i : Nat} : x.toBitVec.getLsbD i = x.toBitVec.toNat.testBit i := rfl
theorem cnt_m {n M : Nat} (hM : M ≤ 32) : cnt (n % 2 ^ M).testBit 32 = cnt n.testBit M := by
  obtain ⟨d, hd⟩ : ∃ d, 32 = M + d := ⟨32 - M, by omega⟩
  rw [hd, cnt_add, cnt_0 d (fun i hi => by rw [Nat.testBit_mod_two_pow, decide_eq_false (by omega)]; rfl), Nat.add_zero]
  apply cnt_c
  intro k hk
  rw [Nat.testBit_mod_two_pow]
  simp [hk]
theorem n71 {G : Nat → Bool} {W : Nat} (hW : W ≤ 126) (hb : ∀ w i, w < 126 → i < 32 → (I 47 w).toBitVec.getLsbD i = G (32 * w + i)) : ∀ (d w N : Nat) (a : Nat), w + d = W → d < N → F_Pr_numberOf_71 u N (nI W) (nI (a + cnt G (32 * w))) (nI w) I J = some (nI (a + cnt G (32 * W)), I, J) := by
  intro d
  induction d with
  | zero =>
    intro w N a hw hN
    obtain ⟨N, rfl⟩ : ∃ z, N = z + 1 := ⟨N - 1, by omega⟩
    have : w = W := by omega
    subst this
    rw [F_Pr_numberOf_71, if_pos (by rw [nI_leI (by omega) (by omega)]; omega)]
  | succ d ih =>
    intro w N a hw hN
    obtain ⟨N, rfl⟩ : ∃ z, N = z + 1 := ⟨N - 1, by omega⟩
    have hx : I 47 w = nI (I 47 w).toBitVec.toNat := nI_bv _
    have hlt : (I 47 w).toBitVec.toNat < 2 ^ 32 := (I 47 w).toBitVec.isLt
    rw [F_Pr_numberOf_71, if_neg (by rw [nI_leI (by omega) (by omega)]; omega), vqT (show w < 126 by omega) (by omega), cond_true, nI_clamp (by omega), hx, bc_eq hlt, bd_s, nI_add, nI_io1, nI_add, bcN_cnt]
    have e : a + cnt G (32 * w) + cnt (I 47 w).toBitVec.toNat.testBit 32 = a + cnt G (32 * (w + 1)) := by
      rw [Nat.mul_succ, cnt_add]
      have : cnt (I 47 w).toBitVec.toNat.testBit 32 = cnt (fun i => G (32 * w + i)) 32 := by
        apply cnt_c
        intro i hi
        rw [← lsb_n]; exact hb w i (by omega) hi
      omega
    rw [e]
    exact ih (w + 1) N a (by omega) (by omega)
theorem st_number {x : Int32} (hu : 200 ≤ u) (h : P4 I J) : ∃ v, F_Pr_numberOf u x I J = some (v, I, J) ∧ F_Mo_number u x I J = some (v, I, J) := by
  obtain ⟨Z, ZR, aim, tol, spo, key, cov, s, hb, hc, hm⟩ := h
  have hpr := hb.2.2.2.1
  have hbit := hc.2.2.2.2
  have hnum := hm.2.2.2.2
  have h12 := hc.1.2.2.2.2.1
  have h37 := hm.1.2.2.2.2.2.1
  generalize s.2.2.2.2.2.1 = pr at *
  generalize s.2.2.2.2.1 = G at *
  unfold F_Pr_numberOf F_Mo_number
  rw [h12, h37, show (4000 : Int32) = nI 4000 from rfl, j_minN (by omega) (by omega), bd_s, Nat.min_eq_left hpr, m_isB, bd_s, b2i_if0]
  by_cases c1 : x < 1
  · have : rgb x 1 (nI pr) = false := by unfold rgb; rw [decide_eq_false]; intro z; exact Int32.not_le.mpr c1 z.1
    rw [if_pos c1, this]
    exact ⟨_, rfl, rfl⟩
  · rw [if_neg c1]
    have h0 : ¬ x < 0 := fun z => c1 (Int32.lt_trans z (by decide))
    obtain ⟨k, hk, rfl⟩ := nI_of h0
    have hk1 : 1 ≤ k := by
      have := Int32.not_lt.mp c1
      rw [nl_1, nI_leI (by omega) (by omega)] at this; exact this
    by_cases c2 : pr < k
    · have : rgb (nI k) 1 (nI pr) = false := by
        unfold rgb; rw [decide_eq_false]; intro z
        have := z.2
        rw [nI_leI (by omega) (by omega)] at this; omega
      rw [if_pos (by rw [nI_ltI (by omega) (by omega)]; exact c2), this]
      exact ⟨_, rfl, rfl⟩
    · have hr : rgb (nI k) 1 (nI pr) = true := by
        unfold rgb; rw [decide_eq_true]
        exact ⟨Int32.not_lt.mp c1, by rw [nI_leI (by omega) (by omega)]; omega⟩
      rw [if_neg (by rw [nI_ltI (by omega) (by omega)]; exact c2), if_pos (by rw [nI_leI (by omega) (by omega)]; omega), hr, nI_clamp (by omega), vqT (show k < 4001 by omega) (by omega), hnum k hk1 (by omega), nl_32, pk_rem (by omega) (by omega) (by omega), pk_div (by omega) (by omega) (by omega), vqT (show k / 32 < 126 by omega) (by omega), nI_clamp (by omega)]
      simp only [cond_true]
      have hx : I 47 (k / 32) = nI (I 47 (k / 32)).toBitVec.toNat := nI_bv _
      have hlt : (I 47 (k / 32)).toBitVec.toNat < 2 ^ 32 := (I 47 (k / 32)).toBitVec.isLt
      have hbk := hbit (k / 32) (k % 32) (by omega) (by omega)
      rw [lsb_n, show 32 * (k / 32) + k % 32 = k by omega] at hbk
      have hbm : ∀ i, i < 32 → (I 47 (k / 32)).toBitVec.toNat.testBit i = G (32 * (k / 32) + i) := fun i hi => by rw [← lsb_n]; exact hbit _ i (by omega) hi
      generalize hw : (I 47 (k / 32)).toBitVec.toNat = wd at *
      have hml : 2 ^ (k % 32 + 1) ≤ 2 ^ 32 := Nat.pow_le_pow_right (by omega) (by omega)
      have hmp : 0 < 2 ^ (k % 32 + 1) := Nat.pow_pos (by omega)
      rw [hx, ushr_v hlt (by omega), mask_v (by omega), andI hlt (by omega), and_mod]
      have hd : wd / 2 ^ (k % 32) < 2 ^ 32 := Nat.lt_of_le_of_lt (Nat.div_le_self _ _) hlt
      rw [show (nI (wd / 2 ^ (k % 32)) &&& (1 : Int32)) = nI (wd / 2 ^ (k % 32) % 2) from pk_andN hd 1 (by decide), ← tb_n, hbk, bc_eq (Nat.lt_of_le_of_lt (Nat.mod_le _ _) hlt), bd_s, bcN_cnt, cnt_m (by omega)]
      refine ⟨_, ?_, rfl⟩
      cases hG : G k with
      | false => rfl
      | true =>
        rw [if_pos (by decide)]
        have := n71 (u := u) (J := J) (W := k / 32) (by omega) hbit (k / 32) 0 u (cnt wd.testBit (k % 32 + 1)) (by omega) (by omega)
        refine this.trans ?_
        congr 3
        show cnt wd.testBit (k % 32 + 1) + cnt G (32 * (k / 32)) = cnt G (k + 1)
        have e : k + 1 = 32 * (k / 32) + (k % 32 + 1) := by omega
        rw [e, cnt_add (f := G) (32 * (k / 32)) (k % 32 + 1)]
        have : cnt wd.testBit (k % 32 + 1) = cnt (fun i => G (32 * (k / 32) + i)) (k % 32 + 1) := by
          apply cnt_c
          intro i hi
          exact hbm i (by omega)
        omega
end Num
