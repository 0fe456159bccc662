/-! ===== whose a place is ===== -/
def own (c k : Nat) : Nat := (cond (Nat.ble c 16) 9 (cond (Nat.ble c 18) 0 (cond (Nat.ble c 28) 1 (cond (Nat.ble c 35) 2 (cond (Nat.ble c 38) 3 (cond (Nat.ble c 47) 4 (cond (Nat.ble c 88) 5 (cond (Nat.ble c 100) 7 (cond (Nat.ble c 109) 8 (cond (Nat.ble c 119) 6 (cond (Nat.ble c 120) (cond (Nat.ble k 5) 0 (cond (Nat.ble k 17) 1 (cond (Nat.ble k 28) 2 (cond (Nat.ble k 31) 3 (cond (Nat.ble k 47) 4 (cond (Nat.ble k 56) 5 (cond (Nat.ble k 65) 6 (cond (Nat.ble k 77) 7 8)))))))) (cond (Nat.ble c 122) 0 (cond (Nat.ble c 130) 1 (cond (Nat.ble c 135) 2 (cond (Nat.ble c 138) 3 (cond (Nat.ble c 145) 4 (cond (Nat.ble c 153) 5 (cond (Nat.ble c 161) 6 (cond (Nat.ble c 168) 7 (cond (Nat.ble c 175) 8 9))))))))))))))))))))
/-- only what the reader or the part s owns may differ -/
def Fr (s : Nat) {α : Type} (I I2 : Nat → Nat → α) : Prop := ∀ c k, own c k ≠ 0 → own c k ≠ s → I2 c k = I c k
theorem Fr.refl {α : Type} (s : Nat) (I : Nat → Nat → α) : Fr s I I := fun _ _ _ _ => rfl
theorem Fr.trans {α : Type} {s : Nat} {I I1 I2 : Nat → Nat → α} (h : Fr s I I1) (h2 : Fr s I1 I2) : Fr s I I2 := fun c k a b => (h2 c k a b).trans (h c k a b)
theorem Fr.of0 {α : Type} {s : Nat} {I I1 : Nat → Nat → α} (h : Fr 0 I I1) : Fr s I I1 := fun c k a _ => h c k a a
theorem Fr.up {α : Type} {s : Nat} {I I1 : Nat → Nat → α} (h : Fr s I I1) {c k : Nat} {v : α} (hw : own c k = 0 ∨ own c k = s) : Fr s I (pm_up I1 c k v) := by
  intro d j a b
  by_cases e : d = c
  · subst e
    rw [pm_up_eq]
    by_cases e2 : j = k
    · subst e2
      rcases hw with q | q
      · exact absurd q a
      · exact absurd q b
    · show (if j = k then v else I1 d j) = _
      rw [if_neg e2]; exact h d j a b
  · rw [pm_up_ne e]; exact h d j a b
theorem own17 {k : Nat} : own 17 k = 0 := rfl
theorem own120 {k : Nat} (h : k ≤ 5) : own 120 k = 0 := by
  match k, h with
  | 0, _ => rfl
  | 1, _ => rfl
  | 2, _ => rfl
  | 3, _ => rfl
  | 4, _ => rfl
  | 5, _ => rfl
theorem Fr_T3 {s : Nat} {I I1 : pm_II} (h : Fr s I I1) {a f w : Int32} : Fr s I (T3 I1 a f w) := by
  intro c k x y
  by_cases e : c = 17
  · subst e; exact absurd own17 x
  · have : (T3 I1 a f w) c = I1 c := by unfold T3; rw [nb_f e]; rfl
    rw [this]; exact h c k x y
theorem Fr_M2 {s : Nat} {I I1 : pm_II} (h : Fr s I I1) {a w : Int32} : Fr s I (M2 I1 a w) := by
  intro c k x y
  by_cases e : c = 120
  · subst e
    have h4 : k ≠ 4 := fun q => x (by rw [q]; rfl)
    have h5 : k ≠ 5 := fun q => x (by rw [q]; rfl)
    have : (M2 I1 a w) 120 k = I1 120 k := by
      show (if k = 4 then a else if k = 5 then w else I1 120 k) = _
      rw [if_neg h4, if_neg h5]
    rw [this]; exact h 120 k x y
  · have : (M2 I1 a w) c = I1 c := by unfold M2; rw [nb_f e]; rfl
    rw [this]; exact h c k x y
theorem Fr_TK {s : Nat} {I I1 : pm_II} (h : Fr s I I1) {n : Nat} : Fr s I (TK I1 n) := by
  intro c k x y
  by_cases e : c = 122
  · subst e; exact absurd rfl x
  · by_cases e2 : c = 120
    · subst e2
      have h4 : k ≠ 2 := fun q => x (by rw [q]; rfl)
      have h5 : k ≠ 3 := fun q => x (by rw [q]; rfl)
      have : (TK I1 n) 120 k = I1 120 k := by
        show (if k = 2 then 0 else if k = 3 then nI n else I1 120 k) = _
        rw [if_neg h4, if_neg h5]
      rw [this]; exact h 120 k x y
    · have : (TK I1 n) c = I1 c := by unfold TK; rw [nb_f e, nb_f e2]; rfl
      rw [this]; exact h c k x y
/-- what a part owns, and nothing else -/
def rs (s : Nat) (I : pm_II) : pm_II := fun c k => cond (Nat.beq (own c k) s) (I c k) 0
def rsJ (s : Nat) (I : pm_JJ) : pm_JJ := fun c k => cond (Nat.beq (own c k) s) (I c k) 0
theorem rs_eq {s t : Nat} {I I2 : pm_II} (h : Fr t I I2) (h0 : s ≠ 0) (ht : s ≠ t) : rs s I2 = rs s I := by
  funext c k
  unfold rs
  by_cases e : own c k = s
  · rw [e, nb_t, cond_true, cond_true]
    exact h c k (by rw [e]; exact h0) (by rw [e]; exact ht)
  · rw [nb_f e]; rfl
theorem rsJ_eq {s t : Nat} {I I2 : pm_JJ} (h : Fr t I I2) (h0 : s ≠ 0) (ht : s ≠ t) : rsJ s I2 = rsJ s I := by
  funext c k
  unfold rsJ
  by_cases e : own c k = s
  · rw [e, nb_t, cond_true, cond_true]
    exact h c k (by rw [e]; exact h0) (by rw [e]; exact ht)
  · rw [nb_f e]; rfl
/-- the tape: both have the same bytes -/
def Ptape (I : pm_II) : Prop := ∃ n : Nat, n ≤ 1600 ∧ I 17 1 = nI n ∧ I 120 2 = nI n ∧ (∀ j, j < n → I 18 j = I 121 j) ∧ ∀ j, j < n → ∃ x : Nat, x < 256 ∧ I 121 j = nI x
/-- a byte of an int -/
def by4 (x s : Int32) : Int32 := (x >>> (s &&& 31)) &&& 255
theorem by4_c : ∀ i : Fin 32, 8 ≤ i.val → (255#32)[i.val] = false := by decide
theorem by4_b (y : BitVec 32) (s i : Nat) (hs : s ≤ 24) (hi : i < 32) : (y.getLsbD (s + i) && (255#32)[i]) = ((y.sshiftRight s)[i] && (255#32)[i]) := by
  by_cases h : i < 8
  · have h2 : s + i < 32 := by omega
    rw [BitVec.getElem_sshiftRight]
    simp [h2, BitVec.getLsbD_eq_getElem h2]
  · have := by4_c ⟨i, hi⟩ (by omega : 8 ≤ i)
    dsimp only at this
    rw [this]
    simp
theorem by4_eq (x : Int32) : (((x).toUInt32 >>> ((24 : Int32).toUInt32 &&& Int32.toUInt32 31)).toInt32 &&& (255 : Int32)) = by4 x 24 ∧ (((x).toUInt32 >>> ((16 : Int32).toUInt32 &&& Int32.toUInt32 31)).toInt32 &&& (255 : Int32)) = by4 x 16 ∧ (((x).toUInt32 >>> ((8 : Int32).toUInt32 &&& Int32.toUInt32 31)).toInt32 &&& (255 : Int32)) = by4 x 8 ∧ (((x).toUInt32 >>> ((0 : Int32).toUInt32 &&& Int32.toUInt32 31)).toInt32 &&& (255 : Int32)) = by4 x 0 := by
  refine ⟨?_, ?_, ?_, ?_⟩
  · apply Int32.toBitVec_inj.mp
    ext i hi
    simp [by4]
    exact by4_b _ _ i (by decide) hi
  · apply Int32.toBitVec_inj.mp
    ext i hi
    simp [by4]
    exact by4_b _ _ i (by decide) hi
  · apply Int32.toBitVec_inj.mp
    ext i hi
    simp [by4]
    exact by4_b _ _ i (by decide) hi
  · apply Int32.toBitVec_inj.mp
    ext i hi
    simp [by4]
theorem nI_bv (y : Int32) : y = nI y.toBitVec.toNat := by
  apply Int32.toBitVec_inj.mp
  show y.toBitVec = BitVec.ofNat 32 y.toBitVec.toNat
  simp
theorem ofN (n : Nat) : Int32.ofNat n = nI n := rfl
theorem by4_lt (x s : Int32) : ∃ m : Nat, m < 256 ∧ by4 x s = nI m := by
  refine ⟨(by4 x s).toBitVec.toNat, ?_, nI_bv _⟩
  unfold by4
  rw [Int32.toBitVec_and, BitVec.toNat_and]
  have : ((255 : Int32)).toBitVec.toNat = 255 := by decide
  rw [this]
  exact Nat.lt_of_le_of_lt Nat.and_le_right (by decide)
def by4i (x : Int32) (i : Nat) : Int32 := if i = 0 then by4 x 24 else if i = 1 then by4 x 16 else if i = 2 then by4 x 8 else by4 x 0
theorem by4i_lt (x : Int32) (i : Nat) : ∃ m : Nat, m < 256 ∧ by4i x i = nI m := by
  unfold by4i
  split
  · exact by4_lt _ _
  · split
    · exact by4_lt _ _
    · split
      · exact by4_lt _ _
      · exact by4_lt _ _
def apv (r : Nat → Int32) (n : Nat) (x : Int32) (j : Nat) : Int32 := if j < n then r j else by4i x (j - n)
theorem ap_row {r : Nat → Int32} {n : Nat} {x : Int32} (j : Nat) (hj : j < n + 4) : (if j = n + 3 then by4 x 0 else if j = n + 2 then by4 x 8 else if j = n + 1 then by4 x 16 else if j = n then by4 x 24 else r j) = apv r n x j := by
  unfold apv by4i
  by_cases h : j < n
  · rw [if_neg (by omega), if_neg (by omega), if_neg (by omega), if_neg (by omega), if_pos h]
  · rw [if_neg h]
    by_cases h0 : j = n
    · rw [if_neg (by omega), if_neg (by omega), if_neg (by omega), if_pos h0, if_pos (by omega)]
    · rw [if_neg (show ¬ j - n = 0 by omega)]
      by_cases h1 : j = n + 1
      · rw [if_neg (by omega), if_neg (by omega), if_pos h1, if_pos (by omega)]
      · rw [if_neg (show ¬ j - n = 1 by omega)]
        by_cases h2 : j = n + 2
        · rw [if_neg (by omega), if_pos h2, if_pos (by omega)]
        · rw [if_pos (by omega), if_neg (show ¬ j - n = 2 by omega)]
section Feed
variable {u : Nat} {I : pm_II} {J : pm_JJ} {n : Nat} {x : Int32}
theorem t_append (hu : 5 ≤ u) (hs : I 17 1 = nI n) (hn : n + 4 ≤ 1600) : ∃ I2, F_Ta_append u x I J = some ((), I2, J) ∧ I2 17 1 = nI (n + 4) ∧ (∀ j, j < n + 4 → I2 18 j = apv (I 18) n x j) ∧ I2 120 = I 120 ∧ I2 121 = I 121 ∧ Fr 0 I I2 := by
  obtain ⟨e24, e16, e8, e0⟩ := by4_eq x
  have step : ∀ (N : Nat) (s t v : Int32) (I : pm_II) (m : Nat), s + Int32.ofInt (-8) = t → ¬ s < 0 → I 17 1 = nI m → m < 1600 → (((x).toUInt32 >>> ((s).toUInt32 &&& Int32.toUInt32 31)).toInt32 &&& (255 : Int32)) = v → F_Ta_append_3 u (N + 1) x s I J = F_Ta_append_3 u N x t (pm_up (pm_up I 18 m v) 17 1 (nI (m + 1))) J := by
    intro N s t v I m ht hs h1 hm hv
    rw [F_Ta_append_3, if_neg hs, h1, hv, ht, nI_clamp (by omega), vq_nI (by omega), nI_1]
    rw [ofN, if_neg (show ¬ (nI 1600 ≤ nI m) by rw [nI_leI (by omega) (by omega)]; omega)]
    have : decide (m < 1600) = true := by simp; omega
    rw [this, cond_true]
  obtain ⟨N, hN⟩ : ∃ k, u = k + 5 := ⟨u - 5, by omega⟩
  refine ⟨pm_up (pm_up (pm_up (pm_up (pm_up (pm_up (pm_up (pm_up I 18 n (by4 x 24)) 17 1 (nI (n + 1))) 18 (n + 1) (by4 x 16)) 17 1 (nI (n + 1 + 1))) 18 (n + 1 + 1) (by4 x 8)) 17 1 (nI (n + 1 + 1 + 1))) 18 (n + 1 + 1 + 1) (by4 x 0)) 17 1 (nI (n + 1 + 1 + 1 + 1)), ?_, rfl, ?_, rfl, rfl, ?_⟩
  · unfold F_Ta_append
    have e1 : F_Ta_append_3 u u x 24 I J = F_Ta_append_3 u (N + 5) x 24 I J := by rw [← hN]
    rw [e1, step (N + 4) 24 16 _ I n (by decide) (by decide) hs (by omega) e24]
    rw [step (N + 3) 16 8 _ _ (n + 1) (by decide) (by decide) rfl (by omega) e16]
    rw [step (N + 2) 8 0 _ _ (n + 1 + 1) (by decide) (by decide) rfl (by omega) e8]
    rw [step (N + 1) 0 (-8) _ _ (n + 1 + 1 + 1) (by decide) (by decide) rfl (by omega) e0]
    rw [F_Ta_append_3, if_pos (by decide)]
  · intro j hj
    exact ap_row j hj
  · refine Fr.up (Fr.up (Fr.up (Fr.up (Fr.up (Fr.up (Fr.up (Fr.up (Fr.refl _ _) ?_) ?_) ?_) ?_) ?_) ?_) ?_) ?_ <;> exact Or.inl rfl
theorem m_four (hu : 5 ≤ u) (hs : I 120 2 = nI n) (hn : n + 4 ≤ 1600) : ∃ I2, F_Mo_four u x I J = some ((), I2, J) ∧ I2 120 2 = nI (n + 4) ∧ (∀ j, j < n + 4 → I2 121 j = apv (I 121) n x j) ∧ I2 17 = I 17 ∧ I2 18 = I 18 ∧ Fr 0 I I2 := by
  have step : ∀ (N : Nat) (s t : Int32) (I : pm_II) (m : Nat), s + Int32.ofInt (-8) = t → ¬ s < 0 → I 120 2 = nI m → m < 1600 → F_Mo_four_3 u (N + 1) x s I J = F_Mo_four_3 u N x t (pm_up (pm_up I 121 m (by4 x s)) 120 2 (nI (m + 1))) J := by
    intro N s t I m ht hs h1 hm
    rw [F_Mo_four_3, if_neg hs, h1, ht, nI_clamp (by omega), vq_nI (by omega), nI_1]
    have : decide (m < 1600) = true := by simp; omega
    rw [this, cond_true]
    rfl
  obtain ⟨N, hN⟩ : ∃ k, u = k + 5 := ⟨u - 5, by omega⟩
  refine ⟨pm_up (pm_up (pm_up (pm_up (pm_up (pm_up (pm_up (pm_up I 121 n (by4 x 24)) 120 2 (nI (n + 1))) 121 (n + 1) (by4 x 16)) 120 2 (nI (n + 1 + 1))) 121 (n + 1 + 1) (by4 x 8)) 120 2 (nI (n + 1 + 1 + 1))) 121 (n + 1 + 1 + 1) (by4 x 0)) 120 2 (nI (n + 1 + 1 + 1 + 1)), ?_, rfl, ?_, rfl, rfl, ?_⟩
  · unfold F_Mo_four
    have e1 : F_Mo_four_3 u u x 24 I J = F_Mo_four_3 u (N + 5) x 24 I J := by rw [← hN]
    rw [e1, step (N + 4) 24 16 I n (by decide) (by decide) hs (by omega)]
    rw [step (N + 3) 16 8 _ (n + 1) (by decide) (by decide) rfl (by omega)]
    rw [step (N + 2) 8 0 _ (n + 1 + 1) (by decide) (by decide) rfl (by omega)]
    rw [step (N + 1) 0 (-8) _ (n + 1 + 1 + 1) (by decide) (by decide) rfl (by omega)]
    rw [F_Mo_four_3, if_pos (by decide)]
  · intro j hj
    exact ap_row j hj
  · refine Fr.up (Fr.up (Fr.up (Fr.up (Fr.up (Fr.up (Fr.up (Fr.up (Fr.refl _ _) ?_) ?_) ?_) ?_) ?_) ?_) ?_) ?_ <;> exact Or.inl rfl
def Agr (n : Nat) (I M : pm_II) : Prop := I 17 1 = nI n ∧ M 120 2 = nI n ∧ (∀ j, j < n → I 18 j = M 121 j) ∧ ∀ j, j < n → ∃ x : Nat, x < 256 ∧ M 121 j = nI x
theorem Agr_step {I1 M M1 : pm_II} (h : Agr n I M) (a1 : I1 17 1 = nI (n + 4)) (a2 : ∀ j, j < n + 4 → I1 18 j = apv (I 18) n x j) (b1 : M1 120 2 = nI (n + 4)) (b2 : ∀ j, j < n + 4 → M1 121 j = apv (M 121) n x j) : Agr (n + 4) I1 M1 := by
  refine ⟨a1, b1, fun j hj => ?_, fun j hj => ?_⟩
  · rw [a2 j hj, b2 j hj]
    unfold apv
    by_cases c : j < n
    · rw [if_pos c, if_pos c]; exact h.2.2.1 j c
    · rw [if_neg c, if_neg c]
  · rw [b2 j hj]
    unfold apv
    by_cases c : j < n
    · rw [if_pos c]; exact h.2.2.2 j c
    · rw [if_neg c]; exact by4i_lt _ _
theorem st_feed {x1 x2 x3 x4 x5 : Int32} (hu : 5 ≤ u) (h : Ptape I) : ∃ v I1 I2, F_Ph_feed u x1 x2 x3 x4 x5 I J = some (v, I1, J) ∧ F_Mo_feed u x1 x2 x3 x4 x5 I1 J = some (v, I2, J) ∧ Ptape I2 ∧ Fr 0 I I2 := by
  obtain ⟨n, hn, h1, h2, h3, h4⟩ := h
  unfold F_Ph_feed F_Ta_hasRoomFor F_Mo_feed
  rw [h1, nl_20, nI_add, ofN, nl_1600]
  by_cases c : n + 20 ≤ 1600
  · rw [if_neg (show ¬ nI 1600 < nI (n + 20) by rw [nI_ltI (by omega) (by omega)]; omega), bd_s, if_pos (by decide)]
    obtain ⟨A1, p1, q1, r1, s1, t1, f1⟩ := t_append (u := u) (J := J) (x := x1) hu h1 (by omega)
    obtain ⟨A2, p2, q2, r2, s2, t2, f2⟩ := t_append (u := u) (J := J) (x := x2) hu q1 (by omega)
    obtain ⟨A3, p3, q3, r3, s3, t3, f3⟩ := t_append (u := u) (J := J) (x := x3) hu q2 (by omega)
    obtain ⟨A4, p4, q4, r4, s4, t4, f4⟩ := t_append (u := u) (J := J) (x := x4) hu q3 (by omega)
    obtain ⟨A5, p5, q5, r5, s5, t5, f5⟩ := t_append (u := u) (J := J) (x := x5) hu q4 (by omega)
    have hA : A5 120 = I 120 := by rw [s5, s4, s3, s2, s1]
    have hA2 : A5 121 = I 121 := by rw [t5, t4, t3, t2, t1]
    have g0 : A5 120 2 = nI n := by rw [hA]; exact h2
    obtain ⟨B1, p1', q1', r1', s1', t1', f1'⟩ := m_four (u := u) (J := J) (x := x1) hu g0 (by omega)
    obtain ⟨B2, p2', q2', r2', s2', t2', f2'⟩ := m_four (u := u) (J := J) (x := x2) hu q1' (by omega)
    obtain ⟨B3, p3', q3', r3', s3', t3', f3'⟩ := m_four (u := u) (J := J) (x := x3) hu q2' (by omega)
    obtain ⟨B4, p4', q4', r4', s4', t4', f4'⟩ := m_four (u := u) (J := J) (x := x4) hu q3' (by omega)
    obtain ⟨B5, p5', q5', r5', s5', t5', f5'⟩ := m_four (u := u) (J := J) (x := x5) hu q4' (by omega)
    have g : Agr n I A5 := ⟨h1, g0, fun j hj => by rw [hA2]; exact h3 j hj, fun j hj => by rw [hA2]; exact h4 j hj⟩
    have g := Agr_step g q1 r1 q1' r1'
    have g := Agr_step g q2 r2 q2' r2'
    have g := Agr_step g q3 r3 q3' r3'
    have g := Agr_step g q4 r4 q4' r4'
    have g := Agr_step g q5 r5 q5' r5'
    have k17 : B5 17 = A5 17 := by rw [s5', s4', s3', s2', s1']
    have k18 : B5 18 = A5 18 := by rw [t5', t4', t3', t2', t1']
    refine ⟨nI (n + 20), A5, B5, ?_, ?_, ⟨n + 20, c, ?_, q5', ?_, g.2.2.2⟩, ?_⟩
    · rw [p1, bd_s, p2, bd_s, p3, bd_s, p4, bd_s, p5, bd_s]
      unfold F_Ta_length
      rw [q5]
      rfl
    · rw [g0, nI_add, if_pos (show nI (n + 20) ≤ nI 1600 by rw [nI_leI (by omega) (by omega)]; exact c)]
      rw [p1', bd_s, p2', bd_s, p3', bd_s, p4', bd_s, p5', bd_s, q5']
    · rw [k17]; exact q5
    · intro j hj
      rw [k18]; exact g.2.2.1 j hj
    · exact ((((((((f1.trans f2).trans f3).trans f4).trans f5).trans f1').trans f2').trans f3').trans f4').trans f5'
  · rw [if_pos (show nI 1600 < nI (n + 20) by rw [nI_ltI (by omega) (by omega)]; omega), bd_s, if_neg (by decide)]
    refine ⟨-4, I, I, rfl, ?_, ⟨n, hn, h1, h2, h3, h4⟩, Fr.refl _ _⟩
    rw [h2, nI_add, if_neg (show ¬ nI (n + 20) ≤ nI 1600 by rw [nI_leI (by omega) (by omega)]; omega)]
theorem st_end {x1 : Int32} (h : Ptape I) : ∃ v I1 I2, F_Ph_end u x1 I J = some (v, I1, J) ∧ F_Mo_end u x1 I1 J = some (v, I2, J) ∧ Ptape I2 ∧ Fr 0 I I2 := by
  obtain ⟨n, hn, h1, h2, h3, h4⟩ := h
  unfold F_Ph_end F_Ta_shorten F_Mo_end
  by_cases c : x1 < 0
  · rw [if_pos c, bd_s]
    exact ⟨-1, I, I, rfl, by rw [if_pos c], ⟨n, hn, h1, h2, h3, h4⟩, Fr.refl _ _⟩
  · rw [if_neg c]
    obtain ⟨m, hm, rfl⟩ := nI_of c
    rw [h1]
    by_cases c2 : m ≤ n
    · rw [if_pos (by rw [nI_leI (by omega) (by omega)]; exact c2), bd_s]
      refine ⟨nI m, _, pm_up (pm_up I 17 1 (nI m)) 120 2 (nI m), rfl, ?_, ⟨m, by omega, ?_, ?_, ?_, ?_⟩, ?_⟩
      · rw [if_neg c]
        have e : (pm_up I 17 1 (nI m)) 120 2 = nI n := h2
        rw [e, if_pos (by rw [nI_leI (by omega) (by omega)]; exact c2)]
      · rfl
      · rfl
      · exact fun j hj => h3 j (by omega)
      · exact fun j hj => h4 j (by omega)
      · exact Fr.up (Fr.up (Fr.refl _ _) (Or.inl rfl)) (Or.inl rfl)
    · have hle : ¬ nI m ≤ nI n := by rw [nI_leI (by omega) (by omega)]; exact c2
      rw [if_neg hle, bd_s]
      refine ⟨-1, I, I, rfl, ?_, ⟨n, hn, h1, h2, h3, h4⟩, Fr.refl _ _⟩
      rw [if_neg c, h2, if_neg hle]
end Feed
