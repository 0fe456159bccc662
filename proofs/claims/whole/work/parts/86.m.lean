/-! ===== letters: adding to the list ===== -/
theorem l_ins33 {u : Nat} {x : Int32} {m : Int64} {r L K : Nat} (hL : L < 120) (hK : K < 2 ^ 30) : ∀ (d N : Nat) (I : pm_II) (J : pm_JJ), r + d ≤ L → d < N → I 89 6 = nI L → I 89 7 = nI K → ∃ I2 J2, F_Ma_insert_33 u N x m (nI r) (nI (r + d)) I J = some ((), I2, J2) ∧ I2 89 6 = nI (L + 1) ∧ I2 89 7 = nI (K + 1) ∧ (∀ j, I2 90 j = if j = r then x else if r < j ∧ j ≤ r + d then I 90 (j - 1) else I 90 j) ∧ (∀ j, I2 92 j = if j = r then nI K else if r < j ∧ j ≤ r + d then I 92 (j - 1) else I 92 j) ∧ (∀ j, J2 91 j = if j = r then m else if r < j ∧ j ≤ r + d then J 91 (j - 1) else J 91 j) ∧ On (fun c k => c = 90 ∨ c = 92 ∨ (c = 89 ∧ (k = 6 ∨ k = 7))) I I2 ∧ On (fun c _ => c = 91) J J2 := by
  intro d
  induction d with
  | zero =>
    intro N I J hd hN h6 h7
    obtain ⟨N, rfl⟩ : ∃ z, N = z + 1 := ⟨N - 1, by omega⟩
    refine ⟨pm_up (pm_up (pm_up (pm_up I 90 r x) 92 r (nI K)) 89 7 (nI (K + 1))) 89 6 (nI (L + 1)), pm_up J 91 r m, ?_, ?_, ?_, fun j => ?_, fun j => ?_, fun j => ?_, ?_, ?_⟩
    · rw [F_Ma_insert_33, Nat.add_zero, if_pos (by rw [nI_leI (by omega) (by omega)]; omega), vqT (show r < 120 by omega) (by omega), nI_clamp (by omega), h6, h7, nI_1, nI_1]
      rfl
    · rfl
    · rfl
    · rw [ur, if_neg (by omega), ur, if_neg (by omega), ur, if_neg (by omega), ur]
      by_cases q : j = r
      · rw [if_pos ⟨rfl, q⟩, if_pos q]
      · rw [if_neg (fun z => q z.2), if_neg q, if_neg (by omega)]
    · rw [ur, if_neg (by omega), ur, if_neg (by omega), ur]
      by_cases q : j = r
      · rw [if_pos ⟨rfl, q⟩, if_pos q]
      · rw [if_neg (fun z => q z.2), if_neg q, if_neg (by omega), ur, if_neg (by omega)]
    · rw [ur]
      by_cases q : j = r
      · rw [if_pos ⟨rfl, q⟩, if_pos q]
      · rw [if_neg (fun z => q z.2), if_neg q, if_neg (by omega)]
    · refine On.up (On.up (On.up (On.up (On.refl _) ?_) ?_) ?_) ?_ <;> omega
    · exact On.up (On.refl _) rfl
  | succ d ih =>
    intro N I J hd hN h6 h7
    obtain ⟨N, rfl⟩ : ∃ z, N = z + 1 := ⟨N - 1, by omega⟩
    obtain ⟨I2, J2, i1, i2, i3, i4, i5, i6, i7, i8⟩ := ih N (pm_up (pm_up I 90 (r + d + 1) (I 90 (r + d))) 92 (r + d + 1) (I 92 (r + d))) (pm_up J 91 (r + d + 1) (J 91 (r + d))) (by omega) (by omega) h6 h7
    have r90 : ∀ j, (pm_up (pm_up I 90 (r + d + 1) (I 90 (r + d))) 92 (r + d + 1) (I 92 (r + d))) 90 j = if j = r + d + 1 then I 90 (r + d) else I 90 j := fun j => by rw [ur, if_neg (by omega), ur]; simp only [true_and]
    have r92 : ∀ j, (pm_up (pm_up I 90 (r + d + 1) (I 90 (r + d))) 92 (r + d + 1) (I 92 (r + d))) 92 j = if j = r + d + 1 then I 92 (r + d) else I 92 j := fun j => by
      rw [ur]
      by_cases q : j = r + d + 1
      · rw [if_pos ⟨rfl, q⟩, if_pos q]
      · rw [if_neg (fun z => q z.2), if_neg q, ur, if_neg (by omega)]
    have r91 : ∀ j, (pm_up J 91 (r + d + 1) (J 91 (r + d))) 91 j = if j = r + d + 1 then J 91 (r + d) else J 91 j := fun j => by rw [ur]; simp only [true_and]
    refine ⟨I2, J2, ?_, i2, i3, fun j => ?_, fun j => ?_, fun j => ?_, On.trans ?_ i7, On.trans (On.up (On.refl _) rfl) i8⟩
    · rw [F_Ma_insert_33, if_neg (by rw [nI_leI (by omega) (by omega)]; omega), nl_1, pk_sub (by omega), show r + (d + 1) - 1 = r + d by omega, vqT (show r + d < 120 by omega) (by omega), vqT (show r + (d + 1) < 120 by omega) (by omega), nI_clamp (by omega), nI_clamp (by omega)]
      simp only [cond_true]
      have e : nI (r + (d + 1)) + Int32.ofInt (-1) = nI (r + d) := by rw [nI_iom1, ← Int32.sub_eq_add_neg, nl_1, pk_sub (by omega)]; rfl
      rw [e]
      exact i1
    · rw [i4 j, r90, r90]
      by_cases q : j = r
      · rw [if_pos q, if_pos q]
      · rw [if_neg q, if_neg q]
        by_cases q2 : r < j ∧ j ≤ r + d
        · rw [if_pos q2, if_neg (by omega), if_pos (by omega)]
        · rw [if_neg q2]
          by_cases q3 : j = r + d + 1
          · subst q3; rw [if_pos rfl, if_pos (by omega)]; rfl
          · rw [if_neg q3, if_neg (by omega)]
    · rw [i5 j, r92, r92]
      by_cases q : j = r
      · rw [if_pos q, if_pos q]
      · rw [if_neg q, if_neg q]
        by_cases q2 : r < j ∧ j ≤ r + d
        · rw [if_pos q2, if_neg (by omega), if_pos (by omega)]
        · rw [if_neg q2]
          by_cases q3 : j = r + d + 1
          · subst q3; rw [if_pos rfl, if_pos (by omega)]; rfl
          · rw [if_neg q3, if_neg (by omega)]
    · rw [i6 j, r91, r91]
      by_cases q : j = r
      · rw [if_pos q, if_pos q]
      · rw [if_neg q, if_neg q]
        by_cases q2 : r < j ∧ j ≤ r + d
        · rw [if_pos q2, if_neg (by omega), if_pos (by omega)]
        · rw [if_neg q2]
          by_cases q3 : j = r + d + 1
          · subst q3; rw [if_pos rfl, if_pos (by omega)]; rfl
          · rw [if_neg q3, if_neg (by omega)]
    · refine On.up (On.up (On.refl _) ?_) ?_ <;> omega
def kLI (c k : Nat) : Prop := c = 90 ∨ c = 92 ∨ (c = 89 ∧ (k = 6 ∨ k = 7))
def kLJ (c _k : Nat) : Prop := c = 91
section Ins
variable {u : Nat} {s : LTt} {c : Nat} {m : Int64}
theorem l_insert {I : pm_II} {J : pm_JJ} {cm : Nat → Nat} {K : Nat} (hu : 200 ≤ u) (ho : okl s) (h : LC s cm K I J) (hc : c < 100000) (hL : (adl s c m).1 ≤ 120) (hK : K + 1 < 2 ^ 20) : ∃ I2 J2 cm2 K2, F_Ma_insert u (nI c) m I J = some ((), I2, J2) ∧ LC (adl s c m) cm2 K2 I2 J2 ∧ K2 ≤ K + 1 ∧ On kLI I I2 ∧ On kLJ J J2 := by
  have h120 := h.1
  unfold F_Ma_insert
  rw [h.2.2.2.2.1, show (120 : Int32) = nI 120 from rfl]
  by_cases q : 120 ≤ s.1
  · rw [if_pos (by rw [nI_leI (by omega) (by omega)]; exact q)]
    have hi : inl s c m = true := by
      cases hh : inl s c m with
      | true => rfl
      | false =>
        have := (lky_adl hh).1
        omega
    have e : adl s c m = s := by unfold adl; rw [hi]; rfl
    rw [e]
    exact ⟨I, J, cm, K, rfl, h, by omega, On.refl _, On.refl _⟩
  · rw [if_neg (by rw [nI_leI (by omega) (by omega)]; exact q), l_isThere hu ho h hc, bd_s, b2i_if0]
    cases hi : inl s c m with
    | true =>
      have e : adl s c m = s := by unfold adl; rw [hi]; rfl
      rw [e]
      exact ⟨I, J, cm, K, rfl, h, by omega, On.refl _, On.refl _⟩
    | false =>
      obtain ⟨e1, e2, e3⟩ := lky_adl hi
      have hr' : rkn (lky s) s.1 (ky c m) ≤ s.1 := cnt_le s.1
      have hne : ∀ k, k < s.1 → lky s k ≠ ky c m := by
        intro k hk e
        have : inl s c m = true := by unfold inl; rw [decide_eq_true]; exact ⟨k, hk, e⟩
        rw [this] at hi; cases hi
      rw [cond_false, l_placeFor hu ho h hc, bd_s, h.2.2.2.2.1]
      obtain ⟨I2, J2, i1, i2, i3, i4, i5, i6, i7, i8⟩ := l_ins33 (u := u) (x := nI c) (m := m) (r := rkn (lky s) s.1 (ky c m)) (L := s.1) (K := K) (by omega) (by have := h.2.1; omega) (s.1 - rkn (lky s) s.1 (ky c m)) u I J (by omega) (by omega) h.2.2.2.2.1 h.2.2.2.2.2.1
      rw [show rkn (lky s) s.1 (ky c m) + (s.1 - rkn (lky s) s.1 (ky c m)) = s.1 by omega] at i1 i4 i5 i6
      have hrk : ∀ x, rkn (lky (adl s c m)) (s.1 + 1) x = rkn (lky s) s.1 x + (decide (ky c m < x)).toNat := by
        intro x
        rw [rk_s, e3, rk_c (κ2 := lky s) (fun j hj => e2 j hj)]
      have ead : adl s c m = (s.1 + 1, fun k => if k = s.1 then c else s.2.1 k, fun k => if k = s.1 then m else s.2.2 k) := by unfold adl; rw [hi]; rfl
      refine ⟨I2, J2, fun k => if k = s.1 then K else cm k, K + 1, i1, ⟨hL, by omega, fun j k hjk hk => ?_, fun k hk => ?_, by rw [e1]; exact i2, i3, fun k hk => ?_⟩, by omega, i7, i8⟩
      · rw [e1] at hk
        dsimp only
        rw [if_neg (show ¬ j = s.1 by omega)]
        split
        · have := h.2.2.2.1 j (by omega); exact this
        · exact h.2.2.1 j k hjk (by omega)
      · rw [e1] at hk
        dsimp only
        split
        · omega
        · have := h.2.2.2.1 k (by omega); omega
      · rw [e1] at hk ⊢
        by_cases a : k = s.1
        · subst a
          rw [e3, hrk, decide_eq_false (Nat.lt_irrefl _)]
          have z : rkn (lky s) s.1 (ky c m) + false.toNat = rkn (lky s) s.1 (ky c m) := rfl
          rw [z, i4, i5, i6, if_pos rfl, if_pos rfl, if_pos rfl, ead]
          dsimp only
          rw [if_pos rfl, if_pos rfl]
          exact ⟨rfl, rfl, by rw [if_pos rfl]⟩
        · obtain ⟨a1, a2, a3⟩ := h.2.2.2.2.2.2 k (by omega)
          have hk2 : k < s.1 := by omega
          have hrl := rk_lt (κ := lky s) hk2
          have hiff := rk_iff (κ := lky s) (x := ky c m) hk2
          rw [e2 k hk2, hrk, ead]
          dsimp only
          rw [if_neg a, if_neg a, if_neg a]
          by_cases w : ky c m < lky s k
          · have w2 : rkn (lky s) s.1 (ky c m) ≤ rkn (lky s) s.1 (lky s k) := rk_mono (Nat.le_of_lt w)
            rw [decide_eq_true w]
            have z : rkn (lky s) s.1 (lky s k) + true.toNat = rkn (lky s) s.1 (lky s k) + 1 := rfl
            have f1 : ¬ rkn (lky s) s.1 (lky s k) + 1 = rkn (lky s) s.1 (ky c m) := by omega
            have f2 : rkn (lky s) s.1 (ky c m) < rkn (lky s) s.1 (lky s k) + 1 ∧ rkn (lky s) s.1 (lky s k) + 1 ≤ s.1 := by omega
            rw [z, i4, i5, i6]
            simp only [if_neg f1, if_pos f2, Nat.add_sub_cancel]
            exact ⟨a1, a2, a3⟩
          · have w3 : lky s k < ky c m := by have := hne k hk2; omega
            have w4 := hiff.mp w3
            rw [decide_eq_false w]
            have z : rkn (lky s) s.1 (lky s k) + false.toNat = rkn (lky s) s.1 (lky s k) := rfl
            have f1 : ¬ rkn (lky s) s.1 (lky s k) = rkn (lky s) s.1 (ky c m) := by omega
            have f2 : ¬ (rkn (lky s) s.1 (ky c m) < rkn (lky s) s.1 (lky s k) ∧ rkn (lky s) s.1 (lky s k) ≤ s.1) := by omega
            rw [z, i4, i5, i6]
            simp only [if_neg f1, if_neg f2]
            exact ⟨a1, a2, a3⟩
/-- the model's list, with what is being added -/
def LM (s : LTt) (M : pm_II) (JM : pm_JJ) : Prop := ∀ k, k < s.1 → M 162 k = nI (s.2.1 k) ∧ JM 168 k = s.2.2 k
theorem m_149 {M : pm_II} {JM : pm_JJ} {K : Int32 → pm_II → pm_JJ → Option (Int32 × pm_II × pm_JJ)} {x1 : Int32} (ho : okl s) (h : LM s M JM) (h74 : M 120 74 = nI s.1) (hL : s.1 ≤ 160) (hc : c < 100000) : ∀ (d k N : Nat) (g : Bool), k + d = s.1 → d < N → (g = true ↔ ∃ j, j < k ∧ s.2.1 j = c ∧ s.2.2 j = m) → ∃ M2 J2, F_Mo_letters_149 u K N x1 (nI c) m (b2i g) (nI k) M JM = K x1 M2 J2 ∧ LM (adl s c m) M2 J2 ∧ M2 120 74 = nI (adl s c m).1 ∧ On (fun c k => (c = 162 ∧ k = s.1) ∨ (c = 120 ∧ k = 74)) M M2 ∧ On (fun c k => c = 168 ∧ k = s.1) JM J2 := by
  intro d
  induction d with
  | zero =>
    intro k N g hk hN hg
    obtain ⟨N, rfl⟩ : ∃ z, N = z + 1 := ⟨N - 1, by omega⟩
    have hks : k = s.1 := by omega
    have hgi : g = inl s c m := by
      cases hh : inl s c m with
      | true => rw [hg, hks]; exact inl_iff.mp hh
      | false =>
        cases hg2 : g with
        | false => rfl
        | true =>
          rw [hks] at hg
          rw [inl_iff.mpr (hg.mp hg2)] at hh; cases hh
    rw [F_Mo_letters_149, h74, if_pos (by rw [nI_leI (by omega) (by omega)]; omega), b2i_if0, hgi]
    cases hi : inl s c m with
    | true =>
      have e : adl s c m = s := by unfold adl; rw [hi]; rfl
      rw [e]
      exact ⟨M, JM, rfl, h, h74, On.refl _, On.refl _⟩
    | false =>
      have ead : adl s c m = (s.1 + 1, fun k => if k = s.1 then c else s.2.1 k, fun k => if k = s.1 then m else s.2.2 k) := by unfold adl; rw [hi]; rfl
      rw [vqT (show s.1 < 161 by omega) (by omega), nI_clamp (by omega), nI_1, ead]
      refine ⟨_, _, rfl, fun j hj => ?_, rfl, On.up (On.up (On.refl _) (by omega)) (by omega), On.up (On.refl _) ⟨rfl, rfl⟩⟩
      dsimp only at hj ⊢
      rw [ur, if_neg (by omega), ur, ur]
      simp only [true_and]
      by_cases q : j = s.1
      · simp only [if_pos q]; exact ⟨trivial, trivial⟩
      · simp only [if_neg q]; exact h j (by omega)
  | succ d ih =>
    intro k N g hk hN hg
    obtain ⟨N, rfl⟩ : ∃ z, N = z + 1 := ⟨N - 1, by omega⟩
    obtain ⟨a1, a2⟩ := h k (by omega)
    have hcd := ho.2 k (by omega)
    rw [F_Mo_letters_149, h74, if_neg (by rw [nI_leI (by omega) (by omega)]; omega), b2i_ifn, vqT (show k < 161 by omega) (by omega), nI_clamp (by omega), a1, a2]
    simp (disch := omega) only [cond_true, nI_eq, lg_cmp_eq, nI_io1, nI_add]
    cases hg2 : g with
    | true =>
      exact ih (k + 1) N true (by omega) (by omega) ⟨fun _ => by obtain ⟨j, hj, e⟩ := hg.mp hg2; exact ⟨j, by omega, e⟩, fun _ => rfl⟩
    | false =>
      have hno : ¬ ∃ j, j < k ∧ s.2.1 j = c ∧ s.2.2 j = m := fun z => by rw [hg.mpr z] at hg2; cases hg2
      by_cases z : s.2.1 k = c ∧ s.2.2 k = m
      · rw [cond_false, if_neg (by simpa using z.1), if_neg (by simpa using z.2)]
        exact ih (k + 1) N true (by omega) (by omega) ⟨fun _ => ⟨k, by omega, z⟩, fun _ => rfl⟩
      · have go := ih (k + 1) N false (by omega) (by omega) ⟨(fun y => by cases y), fun ⟨j, hj, e⟩ => by
          exfalso
          by_cases q : j = k
          · subst q; exact z e
          · exact hno ⟨j, by omega, e⟩⟩
        rw [cond_false]
        by_cases z1 : s.2.1 k = c
        · rw [if_neg (by simpa using z1), if_pos (fun y => z ⟨z1, y⟩)]; exact go
        · rw [if_pos z1]; exact go
end Ins
