/-! ===== pile: both sides ===== -/
theorem own_c {c k : Nat} (h : c ≠ 120) : own c k = own c 0 := by
  unfold own
  cases h1 : Nat.ble c 119 with
  | true => simp only [cond_true]
  | false =>
    have h2 : Nat.ble c 120 = false := by
      cases h3 : Nat.ble c 120 with
      | false => rfl
      | true =>
        have a := Nat.le_of_ble_eq_true h3
        have b : ¬ c ≤ 119 := fun z => by rw [Nat.ble_eq_true_of_le z] at h1; cases h1
        omega
    simp only [h2, cond_false]
theorem own1_a : ∀ c, c < 176 → (19 ≤ c ∧ c ≤ 28 ∨ 123 ≤ c ∧ c ≤ 130) → own c 0 = 1 := by decide +kernel
theorem own1 {c k : Nat} (h : 19 ≤ c ∧ c ≤ 28 ∨ 123 ≤ c ∧ c ≤ 130) : own c k = 1 := (own_c (by omega)).trans (own1_a c (by omega) h)
theorem own2_a : ∀ c, c < 176 → (29 ≤ c ∧ c ≤ 35 ∨ 131 ≤ c ∧ c ≤ 135) → own c 0 = 2 := by decide +kernel
theorem own2 {c k : Nat} (h : 29 ≤ c ∧ c ≤ 35 ∨ 131 ≤ c ∧ c ≤ 135) : own c k = 2 := (own_c (by omega)).trans (own2_a c (by omega) h)
theorem own3_a : ∀ c, c < 176 → (36 ≤ c ∧ c ≤ 38 ∨ 136 ≤ c ∧ c ≤ 138) → own c 0 = 3 := by decide +kernel
theorem own3 {c k : Nat} (h : 36 ≤ c ∧ c ≤ 38 ∨ 136 ≤ c ∧ c ≤ 138) : own c k = 3 := (own_c (by omega)).trans (own3_a c (by omega) h)
theorem own4_a : ∀ c, c < 176 → (39 ≤ c ∧ c ≤ 47 ∨ 139 ≤ c ∧ c ≤ 145) → own c 0 = 4 := by decide +kernel
theorem own4 {c k : Nat} (h : 39 ≤ c ∧ c ≤ 47 ∨ 139 ≤ c ∧ c ≤ 145) : own c k = 4 := (own_c (by omega)).trans (own4_a c (by omega) h)
theorem own5_a : ∀ c, c < 176 → (48 ≤ c ∧ c ≤ 88 ∨ 146 ≤ c ∧ c ≤ 153) → own c 0 = 5 := by decide +kernel
theorem own5 {c k : Nat} (h : 48 ≤ c ∧ c ≤ 88 ∨ 146 ≤ c ∧ c ≤ 153) : own c k = 5 := (own_c (by omega)).trans (own5_a c (by omega) h)
theorem own6_a : ∀ c, c < 176 → (110 ≤ c ∧ c ≤ 119 ∨ 154 ≤ c ∧ c ≤ 161) → own c 0 = 6 := by decide +kernel
theorem own6 {c k : Nat} (h : 110 ≤ c ∧ c ≤ 119 ∨ 154 ≤ c ∧ c ≤ 161) : own c k = 6 := (own_c (by omega)).trans (own6_a c (by omega) h)
theorem own7_a : ∀ c, c < 176 → (89 ≤ c ∧ c ≤ 100 ∨ 162 ≤ c ∧ c ≤ 168) → own c 0 = 7 := by decide +kernel
theorem own7 {c k : Nat} (h : 89 ≤ c ∧ c ≤ 100 ∨ 162 ≤ c ∧ c ≤ 168) : own c k = 7 := (own_c (by omega)).trans (own7_a c (by omega) h)
theorem own8_a : ∀ c, c < 176 → (101 ≤ c ∧ c ≤ 109 ∨ 169 ≤ c ∧ c ≤ 175) → own c 0 = 8 := by decide +kernel
theorem own8 {c k : Nat} (h : 101 ≤ c ∧ c ≤ 109 ∨ 169 ≤ c ∧ c ≤ 175) : own c k = 8 := (own_c (by omega)).trans (own8_a c (by omega) h)
def cp4 (M : pm_II) (k : Nat) : pm_II := fun c j => if (154 ≤ c ∧ c ≤ 157) ∧ j < k then M (c + 4) j else M c j
theorem cp4_step {M : pm_II} {k : Nat} : pm_up (pm_up (pm_up (pm_up (cp4 M k) 154 k (M 158 k)) 155 k (M 159 k)) 156 k (M 160 k)) 157 k (M 161 k) = cp4 M (k + 1) := by
  funext c j
  simp only [ur, cp4]
  by_cases e : j = k
  · subst e
    by_cases h1 : c = 154
    · subst h1; simp
    · by_cases h2 : c = 155
      · subst h2; simp
      · by_cases h3 : c = 156
        · subst h3; simp
        · by_cases h4 : c = 157
          · subst h4; simp
          · have : ¬ (154 ≤ c ∧ c ≤ 157) := by omega
            simp [h1, h2, h3, h4, this]
  · have : (j < k + 1) ↔ j < k := by omega
    simp [e, this]
theorem cp4_0 {M : pm_II} : cp4 M 0 = M := by
  funext c j
  unfold cp4
  rw [if_neg (by omega)]
theorem cp4_On {M : pm_II} {k : Nat} : On (fun c _ => 154 ≤ c ∧ c ≤ 157) M (cp4 M k) := by
  intro c j h
  unfold cp4
  rw [if_neg (fun z => h z.1)]
theorem cp4_r {M : pm_II} {k c : Nat} (h : ¬ (154 ≤ c ∧ c ≤ 157)) : cp4 M k c = M c := by
  funext j
  exact cp4_On c j h
section PileS
variable {u : Nat} {I M : pm_II} {J : pm_JJ} {b : Nat → Int32} {n p f a0 m : Nat} {e : Option Nat}
theorem m_398 (hm : m ≤ 31) : ∀ (d k N : Nat), k + d = m → d < N → F_Mo_pile_398 u N (nI m) (nI k) (mc (cp4 M k) p e) J = some (M 120 65, mc (cp4 M m) p e, J) := by
  intro d
  induction d with
  | zero =>
    intro k N hk hN
    obtain ⟨N, rfl⟩ : ∃ z, N = z + 1 := ⟨N - 1, by omega⟩
    rw [F_Mo_pile_398, if_pos (by rw [nI_leI (by omega) (by omega)]; omega)]
    have : k = m := by omega
    subst this
    rw [mc_k (by omega) (by omega), cp4_r (by omega)]
  | succ d ih =>
    intro k N hk hN
    obtain ⟨N, rfl⟩ : ∃ z, N = z + 1 := ⟨N - 1, by omega⟩
    rw [F_Mo_pile_398, if_neg (by rw [nI_leI (by omega) (by omega)]; omega), vqT (show k < 32 by omega) (by omega)]
    simp (disch := omega) only [cond_true, nI_clamp, M2_o, mcr, nI_io1, nI_add, ur, Nat.reduceEqDiff, false_and, if_false]
    rw [show (cp4 M k) 158 k = M 158 k by rw [cp4_r (by omega)], show (cp4 M k) 159 k = M 159 k by rw [cp4_r (by omega)], show (cp4 M k) 160 k = M 160 k by rw [cp4_r (by omega)], show (cp4 M k) 161 k = M 161 k by rw [cp4_r (by omega)], cp4_step]
    exact ih (k + 1) N (by omega) (by omega)
end PileS
theorem st_pile {u : Nat} {I : pm_II} {J : pm_JJ} {pa pb : Nat} {w h : Int32} (hu : 2000 ≤ u) (hpa : oP pa) (hpb : oP pb) (hne : pa ≠ pb) (ht : Ptape I) (hw : 1 ≤ w ∧ w ≤ 999) (hh : 1 ≤ h ∧ h ≤ 999) :
    ∃ b n m1 I1 pp ff ee I2, F_Pi_takeText u pb w h (tc I 0 0 none) J = some (nI m1, tc I1 pp ff ee, J) ∧ Ok n pp ee ∧ Tb b n I1 ∧ F_Mo_pile u w h (tc (pm_up I1 17 1 0) pp ff ee) J = some (ansW ee (nI m1), I2, J) ∧ Ptape I2 ∧ Fr 6 I I2 ∧ (ee = none → P6 pb I2) ∧ (ee ≠ none → P6 pa I → P6 pa I2) := by
  obtain ⟨b, n, hb, h2, h121, hbb⟩ := ht.bn
  have hn := hb.2.2
  have v0 : vq (0 : Int32) 31 = true := by decide
  have On0 : On (fun c _ => pb ≤ c ∧ c ≤ pb + 4) I (pm_up (pm_up (pm_up (pm_up (pm_up I (pb + 1) 0 0) (pb + 2) 0 0) (pb + 3) 0 w) (pb + 4) 0 h) pb 4 1) := by
    refine On.up (On.up (On.up (On.up (On.up (On.refl _) ?_) ?_) ?_) ?_) ?_ <;> constructor <;> omega
  generalize hI0 : pm_up (pm_up (pm_up (pm_up (pm_up I (pb + 1) 0 0) (pb + 2) 0 0) (pb + 3) 0 w) (pb + 4) 0 h) pb 4 1 = I0 at On0
  have hb0 : Tb b n I0 := hb.on On0 (by rcases hpb with rfl | rfl <;> omega) (fun j => by rcases hpb with rfl | rfl <;> omega)
  have h40 : I0 pb 4 = nI 1 := by rw [← hI0, ur, if_pos ⟨rfl, rfl⟩]; rfl
  have hrow : I0 (pb + 1) 0 = 0 ∧ I0 (pb + 2) 0 = 0 ∧ I0 (pb + 3) 0 = w ∧ I0 (pb + 4) 0 = h := by
    rw [← hI0]; simp [ur]
  have hcls : F_Pi_takeText u pb w h (tc I 0 0 none) J = F_Pi_takeText_36 u u pb (nI (1 - 1)) (tc I0 0 0 none) J := by
    unfold F_Pi_takeText
    rw [v0]
    simp only [cond_true]
    rw [← hI0]
    have e17 : ∀ i, i ≤ 4 → pb + i ≠ 17 := fun i hi => by rcases hpb with rfl | rfl <;> omega
    rw [T3_o (e17 1 (by omega)), T3_o (e17 2 (by omega)), T3_o (e17 3 (by omega)), T3_o (e17 4 (by omega)), T3_o (show pb ≠ 17 from e17 0 (by omega))]
    rfl
  obtain ⟨I1, m1, pp, ff, ee, s1, s2, s3, s4, s5, s6, s7, s8⟩ := pl_loop (u := u) (J := J) hu hpb 30 1 I0 0 0 u u (by omega) (by omega) (by omega) (by omega) hb0 h40 (by omega)
  have hT : On (fun c _ => pb ≤ c ∧ c ≤ pb + 4) I I1 := On0.trans s7
  have hX2 : (tc (pm_up I1 17 1 0) pp ff ee) 120 2 = nI n := by
    have : I1 120 2 = I 120 2 := hT 120 2 (by rcases hpb with rfl | rfl <;> omega)
    exact this.trans h2
  have hX121 : ∀ j, (tc (pm_up I1 17 1 0) pp ff ee) 121 j = I 121 j := fun j => hT 121 j (by rcases hpb with rfl | rfl <;> omega)
  generalize hX : (tc (pm_up I1 17 1 0) pp ff ee) = X at *
  have hM0 : Mb b n (pm_up (pm_up (pm_up (pm_up (TK X n) 158 0 0) 159 0 0) 160 0 w) 161 0 h) := by
    refine Mb.put (Mb.put (Mb.put (Mb.put (TK_Mb hn (fun j hj => by rw [hX121]; exact h121 j hj)) ?_ ?_) ?_ ?_) ?_ ?_) ?_ ?_ <;> omega
  obtain ⟨M1, p3, m2, z1, z2, z3, z4, z5⟩ := s8 _ hM0 ⟨h40, fun j hj => by
    have : j = 0 := by omega
    subst this
    simp [ur, hrow]⟩
  have mdl : F_Mo_pile u w h X J = F_Mo_pile_374 u (nI m2) (mc M1 p3 ee) J := by
    unfold F_Mo_pile
    rw [m_is, bd_s, decide_eq_true hw, if_neg (by decide), m_is, bd_s, decide_eq_true hh, if_pos (by decide), m_take (by omega) hn hX2, bd_s]
    rw [M2_o (by omega), M2_o (by omega), M2_o (by omega), M2_o (by omega)]
    exact z5
  have hz : ∀ c, c ≤ 119 → c ≠ 17 → ∀ j, M1 c j = I1 c j := by
    intro c hc h17 j
    rw [z3 c j (by omega), ur, if_neg (by omega), ur, if_neg (by omega), ur, if_neg (by omega), ur, if_neg (by omega), tkr (by omega) (by omega), ← hX, tc_r h17, ur, if_neg (by omega)]
  have hz2 : ∀ c j, 120 ≤ c → ¬ (158 ≤ c ∧ c ≤ 161) → M1 c j = (TK X n) c j := by
    intro c j hc h158
    rw [z3 c j h158, ur, if_neg (by omega), ur, if_neg (by omega), ur, if_neg (by omega), ur, if_neg (by omega)]
  have frM : Fr 6 I M1 := by
    have f1 : Fr 6 I I1 := hT.fr (fun c k hc => Or.inr (own6 (by rcases hpb with rfl | rfl <;> omega)))
    have f2 : Fr 6 I (TK X n) := by rw [← hX]; exact Fr_TK (Fr_T3 (Fr.up f1 (Or.inl rfl)))
    have f3 : Fr 6 I (pm_up (pm_up (pm_up (pm_up (TK X n) 158 0 0) 159 0 0) 160 0 w) 161 0 h) := Fr.up (Fr.up (Fr.up (Fr.up f2 (Or.inr rfl)) (Or.inr rfl)) (Or.inr rfl)) (Or.inr rfl)
    exact f3.trans (z3.fr (fun c k hc => Or.inr (own6 (by omega))))
  have mz : (mc M1 p3 ee) 120 2 = 0 := hz2 120 2 (by omega) (by omega)
  have m17 : (mc M1 p3 ee) 17 1 = 0 := by
    show M1 17 1 = 0
    rw [z3 17 1 (by omega)]
    rw [← hX]
    rfl
  rw [← hX] at mdl
  unfold F_Mo_pile_374 at mdl
  rw [m_ans z1 z2] at mdl
  rw [hcls]
  cases ee with
  | some x =>
    refine ⟨b, n, m1, I1, pp, ff, some x, _, s3, s1, s2, mdl, Ptape.zero m17 mz, Fr_M2 frM, (fun z => by cases z), fun _ h6 => ?_⟩
    obtain ⟨m, hm, g1, g2, g3⟩ := h6
    have hk : ∀ c k, own c k = 6 → ¬ (pb ≤ c ∧ c ≤ pb + 4) → ¬ (158 ≤ c ∧ c ≤ 161) → c ≠ 120 → (mc M1 p3 (some x)) c k = I c k := by
      intro c k ho h1 h2 h3
      rw [mc_r h3]
      by_cases h119 : c ≤ 119
      · have : c ≠ 17 := fun e => by rw [e] at ho; cases ho
        rw [hz c h119 this, hT c k h1]
      · have : c ≠ 122 := fun e => by rw [e] at ho; cases ho
        rw [hz2 c k (by omega) h2, tkr h3 this, ← hX, tc_r (by omega), ur, if_neg (by omega), hT c k h1]
    have hpc : ∀ i, i ≤ 4 → ∀ k, (mc M1 p3 (some x)) (pa + i) k = I (pa + i) k := fun i hi k => hk (pa + i) k (own6 (by rcases hpa with rfl | rfl <;> omega)) (by rcases hpa with rfl | rfl <;> rcases hpb with rfl | rfl <;> first | exact absurd rfl hne | omega) (by rcases hpa with rfl | rfl <;> omega) (by rcases hpa with rfl | rfl <;> omega)
    have hpr : ∀ i, i ≤ 3 → ∀ k, (mc M1 p3 (some x)) (154 + i) k = I (154 + i) k := fun i hi k => hk (154 + i) k (own6 (by omega)) (by rcases hpb with rfl | rfl <;> omega) (by omega) (by omega)
    refine ⟨m, hm, (hpc 0 (by omega) 4).trans g1, ?_, fun k hkm => ?_⟩
    · refine (mc_k (by omega) (by omega)).trans ?_
      rw [hz2 120 65 (by omega) (by omega), tkk (by omega) (by omega), ← hX, tc_r (by omega), ur, if_neg (by omega), hT 120 65 (by rcases hpb with rfl | rfl <;> omega)]
      exact g2
    · obtain ⟨q1, q2, q3, q4⟩ := g3 k hkm
      refine ⟨?_, ?_, ?_, ?_⟩
      · exact (hpc 1 (by omega) k).trans (q1.trans (hpr 0 (by omega) k).symm)
      · exact (hpc 2 (by omega) k).trans (q2.trans (hpr 1 (by omega) k).symm)
      · exact (hpc 3 (by omega) k).trans (q3.trans (hpr 2 (by omega) k).symm)
      · exact (hpc 4 (by omega) k).trans (q4.trans (hpr 3 (by omega) k).symm)
  | none =>
    obtain ⟨hR, rfl⟩ := z4 rfl
    have e1 : ansM none (F_Mo_pile_398 u u (nI m2) 0 (pm_up (mc M1 p3 none) 120 65 (nI m2)) J) (fun y => some (-1000 - nI y, mc M1 p3 (some y), J)) = some (nI m2, mc (cp4 (pm_up M1 120 65 (nI m2)) m2) p3 none, J) := by
      show F_Mo_pile_398 u u (nI m2) 0 (pm_up (mc M1 p3 none) 120 65 (nI m2)) J = _
      rw [M2_k (by omega) (by omega)]
      have := m_398 (u := u) (J := J) (M := pm_up M1 120 65 (nI m2)) (p := p3) (e := none) s4 m2 0 u (by omega) (by omega)
      rw [cp4_0] at this
      rw [ur, if_pos ⟨rfl, rfl⟩] at this
      exact this
    refine ⟨b, n, m2, I1, pp, ff, none, _, s3, s1, s2, mdl.trans e1, Ptape.zero ?_ ?_, ?_, fun _ => ?_, fun z => absurd rfl z⟩
    · rw [mc_r (by omega), cp4_r (by omega), ur, if_neg (by omega)]; exact m17
    · rw [mc_k (by omega) (by omega), cp4_r (by omega), ur, if_neg (by omega)]; exact mz
    · exact Fr_M2 ((Fr.up frM (Or.inr rfl)).trans (cp4_On.fr (fun c k hc => Or.inr (own6 (by omega)))))
    · have hpc : ∀ i, i ≤ 4 → ∀ k, (mc (cp4 (pm_up M1 120 65 (nI m2)) m2) p3 none) (pb + i) k = I1 (pb + i) k := fun i hi k => by
        have : pb + i ≤ 119 ∧ pb + i ≠ 17 ∧ pb + i ≠ 120 := by rcases hpb with rfl | rfl <;> omega
        rw [mc_r this.2.2, cp4_r (by omega), ur, if_neg (by omega)]
        exact hz (pb + i) this.1 this.2.1 k
      have hpr : ∀ i, i ≤ 3 → ∀ k, k < m2 → (mc (cp4 (pm_up M1 120 65 (nI m2)) m2) p3 none) (154 + i) k = M1 (158 + i) k := fun i hi k hk => by
        rw [mc_r (by omega)]
        unfold cp4
        rw [if_pos ⟨by omega, hk⟩, ur, if_neg (by omega)]
        congr 1; omega
      refine ⟨m2, s4, (hpc 0 (by omega) 4).trans hR.1, ?_, fun k hkm => ?_⟩
      · refine (mc_k (by omega) (by omega)).trans ?_
        rw [cp4_r (by omega), ur, if_pos ⟨rfl, rfl⟩]
      · obtain ⟨q1, q2, q3, q4⟩ := hR.2 k hkm
        refine ⟨?_, ?_, ?_, ?_⟩
        · exact (hpc 1 (by omega) k).trans (q1.trans (hpr 0 (by omega) k hkm).symm)
        · exact (hpc 2 (by omega) k).trans (q2.trans (hpr 1 (by omega) k hkm).symm)
        · exact (hpc 3 (by omega) k).trans (q3.trans (hpr 2 (by omega) k hkm).symm)
        · exact (hpc 4 (by omega) k).trans (q4.trans (hpr 3 (by omega) k hkm).symm)
