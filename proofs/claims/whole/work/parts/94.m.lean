/-! ===== mail: the calls but letters ===== -/
def k7 (c k : Nat) : Prop := (89 ≤ c ∧ c ≤ 100) ∨ (162 ≤ c ∧ c ≤ 168) ∨ (c = 120 ∧ 73 ≤ k ∧ k ≤ 77)
theorem own120_7 : ∀ k, k < 78 → 73 ≤ k → own 120 k = 7 := by decide +kernel
theorem k7_own {c k : Nat} (h : k7 c k) : own c k = 0 ∨ own c k = 7 := by
  rcases h with h | h | ⟨rfl, h1, h2⟩
  · exact Or.inr (own7 (by omega))
  · exact Or.inr (own7 (by omega))
  · exact Or.inr (own120_7 k (by omega) h1)
theorem Ptape_k7 {I I2 : pm_II} (o : On k7 I I2) (h : Ptape I) : Ptape I2 := Ptape.on o (by unfold k7; omega) (by unfold k7; omega) (fun j => by unfold k7; omega) (fun j => by unfold k7; omega) h
def St7 (t : Nat) (fc fm : pm_II → pm_JJ → Option (Int32 × pm_II × pm_JJ)) (I : pm_II) (J : pm_JJ) : Prop := ∃ v I1 J1 I2 J2, fc I J = some (v, I1, J1) ∧ fm I1 J1 = some (v, I2, J2) ∧ P7 t I2 J2 ∧ Fr 7 I I2 ∧ Fr 7 J J2 ∧ (Ptape I → Ptape I2)
theorem kRI_k7 {c k : Nat} (h : kRI c k) : k7 c k := by unfold kRI kCI kBI at h; unfold k7; omega
theorem kMO_k7 {c k : Nat} (h : kMO c k) : k7 c k := by unfold kMO kMB at h; unfold k7; omega
section Mail
variable {u t : Nat} {I : pm_II} {J : pm_JJ} {s : LTt} {cm : Nat → Nat} {K most least : Nat}
theorem LC.on {S : Nat → Nat → Prop} {I2 : pm_II} (h : LC s cm K I J) (o : On S I I2) (h1 : ¬ S 89 6) (h2 : ¬ S 89 7) (h3 : ∀ p, ¬ S 90 p ∧ ¬ S 92 p) : LC s cm K I2 J := by
  obtain ⟨a1, a2, a3, a4, a5, a6, a7⟩ := h
  exact ⟨a1, a2, a3, a4, by rw [o _ _ h1]; exact a5, by rw [o _ _ h2]; exact a6, fun k hk => by rw [o _ _ (h3 _).1, o _ _ (h3 _).2]; exact a7 k hk⟩
theorem MX.on {S : Nat → Nat → Prop} {L : Nat} {X : BX} {I2 : pm_II} (h : MX L X I) (o : On S I I2) (h1 : ¬ S 120 77) (h2 : ∀ p, ¬ S 163 p ∧ ¬ S 165 p ∧ ¬ S 166 p ∧ ¬ S 167 p) : MX L X I2 := by
  obtain ⟨a1, a2, a3⟩ := h
  exact ⟨by rw [o _ _ h1]; exact a1, fun p hp => by rw [o _ _ (h2 p).1]; exact a2 p hp, fun k hk => by rw [o _ _ (h2 k).2.1, o _ _ (h2 k).2.2.1, o _ _ (h2 k).2.2.2]; exact a3 k hk⟩
theorem CX.on {S : Nat → Nat → Prop} {L : Nat} {X : BX} {I2 : pm_II} (h : CX L X I) (o : On S I I2) (h1 : ¬ S 95 7) (h2 : ∀ p, ¬ S 96 p ∧ ¬ S 98 p ∧ ¬ S 99 p ∧ ¬ S 100 p) : CX L X I2 := by
  obtain ⟨a1, a2, a3⟩ := h
  exact ⟨by rw [o _ _ h1]; exact a1, fun p hp => by rw [o _ _ (h2 p).1]; exact a2 p hp, fun k hk => by rw [o _ _ (h2 k).2.1, o _ _ (h2 k).2.2.1, o _ _ (h2 k).2.2.2]; exact a3 k hk⟩
theorem wfM.lo {S : Nat → Nat → Prop} {L : Nat} {g o : Nat → Nat} {I2 : pm_II} (h : wfM L most least g o I) (h2 : On S I I2) (hS : ∀ c k, S c k → c < 120) : wfM L most least g o I2 := by
  obtain ⟨a, b, c, d⟩ := h
  have n : ∀ c k, 120 ≤ c → ¬ S c k := fun c k h z => by have := hS c k z; omega
  exact ⟨by rw [h2 _ _ (n _ _ (by omega))]; exact a, fun p hp => by rw [h2 164 _ (n _ _ (by omega)), h2 162 _ (n _ _ (by omega))]; exact b p hp, by rw [h2 _ _ (n _ _ (by omega))]; exact c, by rw [h2 _ _ (n _ _ (by omega))]; exact d⟩
theorem LM.lo {S : Nat → Nat → Prop} {I2 : pm_II} (h : LM s I J) (h2 : On S I I2) (hS : ∀ c k, S c k → c < 120) : LM s I2 J := fun k hk => by
  rw [h2 162 k (fun z => by have := hS _ _ z; omega)]; exact h k hk
theorem Q7.ref (hu : 400 ≤ u) (h : Q7 t s cm K most least I J) : ∃ I1, F_Bu_refresh u I J = some ((), I1, J) ∧ Q7 t s cm K most least I1 J ∧ CX s.1 (bun s.1 most least (gL s)) I1 ∧ On kRI I I1 := by
  obtain ⟨⟨ho, hK, h1, h2, h30⟩, hc, hm, ⟨h5, h6⟩, hs, hX, hw⟩ := h
  obtain ⟨I1, e1, e2, e3, e4, e5⟩ := c_refresh (u := u) (J := J) hu hc.1 h1 h2 h30 (fun p hp => gL_lt ho hp) ⟨hc.2.2.2.2.1, fun p hp => (LC_g ho hc hp).1, h5, h6⟩ hs
  have lo : ∀ c k, kRI c k → c < 120 := fun c k z => by unfold kRI kCI kBI at z; omega
  refine ⟨I1, e1, ⟨⟨ho, hK, h1, h2, h30⟩, hc.on e5 ?_ ?_ (fun p => ?_), hm.lo e5 lo, ⟨e4.2.2.1, e4.2.2.2⟩, Or.inr e2, hX.on e5 ?_ (fun p => ?_), hw.lo e5 lo⟩, e2, e5⟩
  · unfold kRI kCI kBI; omega
  · unfold kRI kCI kBI; omega
  · unfold kRI kCI kBI; omega
  · unfold kRI kCI kBI; omega
  · unfold kRI kCI kBI; omega
theorem st7_same {fc fm : pm_II → pm_JJ → Option (Int32 × pm_II × pm_JJ)} (h : P7 t I J) {v : Int32} (h1 : fc I J = some (v, I, J)) (h2 : fm I J = some (v, I, J)) : St7 t fc fm I J := ⟨v, I, J, I, J, h1, h2, h, Fr.refl _ _, Fr.refl _ _, id⟩
theorem st_bundles {x y : Int32} (hu : 400 ≤ u) (h : P7 t I J) : St7 t (F_Ph_bundles u x y) (F_Mo_bundles u x y) I J := by
  have hP := h
  obtain ⟨s, cm, K, most, least, ⟨ho, hK, h1, h2, h30⟩, hc, hm, ⟨h5, h6⟩, hs, hX, hw⟩ := h
  by_cases c : 1 ≤ x ∧ x ≤ y ∧ y ≤ 30
  · obtain ⟨c1, c2, c3⟩ := c
    obtain ⟨a, ha, rfl⟩ := nI_of (x := x) (fun z => by rw [Int32.lt_iff_toInt_lt] at z; rw [Int32.le_iff_toInt_le] at c1; have : (1 : Int32).toInt = 1 := rfl; have : (0 : Int32).toInt = 0 := rfl; omega)
    obtain ⟨b, hb, rfl⟩ := nI_of (x := y) (fun z => by rw [Int32.lt_iff_toInt_lt] at z; rw [Int32.le_iff_toInt_le] at c1 c2; have : (1 : Int32).toInt = 1 := rfl; have : (0 : Int32).toInt = 0 := rfl; omega)
    rw [nI_leI ha hb] at c2
    rw [show (1 : Int32) = nI 1 from rfl, nI_leI (by omega) ha] at c1
    rw [show (30 : Int32) = nI 30 from rfl, nI_leI hb (by omega)] at c3
    have oL : On k7 I (pm_up (pm_up (pm_up I 95 5 (nI a)) 95 6 (nI b)) 95 8 1) := by
      refine On.up (On.up (On.up (On.refl _) ?_) ?_) ?_ <;> (unfold k7; omega)
    have oS : On (fun c k => c = 95 ∧ k ≠ 7) I (pm_up (pm_up (pm_up I 95 5 (nI a)) 95 6 (nI b)) 95 8 1) := by
      refine On.up (On.up (On.up (On.refl _) ?_) ?_) ?_ <;> omega
    have hc1 : LC s cm K (pm_up (pm_up (pm_up I 95 5 (nI a)) 95 6 (nI b)) 95 8 1) J := hc.on oS (by omega) (by omega) (fun p => by omega)
    obtain ⟨I1, e1, e2, e3, e4, e5⟩ := c_refresh (u := u) (J := J) (L := s.1) (most := b) (least := a) (g := gL s) (I := pm_up (pm_up (pm_up I 95 5 (nI a)) 95 6 (nI b)) 95 8 1) hu hc.1 c1 c2 c3 (fun p hp => gL_lt ho hp) ⟨hc1.2.2.2.2.1, fun p hp => (LC_g ho hc1 hp).1, rfl, rfl⟩ (Or.inl (show ¬ (1 : Int32) = 0 by decide))
    have lo : ∀ c k, kRI c k → c < 120 := fun c k z => by unfold kRI kCI kBI at z; omega
    have hc2 : LC s cm K I1 J := hc1.on e5 (by unfold kRI kCI kBI; omega) (by unfold kRI kCI kBI; omega) (fun p => by unfold kRI kCI kBI; omega)
    have hm2 : LM s I1 J := (hm.lo oS (fun c k z => by omega)).lo e5 lo
    have w73 : I1 120 73 = nI s.1 := by rw [e5 120 73 (by unfold kRI kCI kBI; omega), oS 120 73 (by omega)]; exact hw.1
    obtain ⟨I2, f1, f2, f3, f4⟩ := m_bundled (u := u) (J := J) (s := s) (I := pm_up (pm_up I1 120 75 (nI a)) 120 76 (nI b)) (most := b) (least := a) hu ho hc.1 c1 c2 c3 (fun k hk => hm2 k hk) w73 rfl rfl
    have o2 : On k7 I1 (pm_up (pm_up I1 120 75 (nI a)) 120 76 (nI b)) := by
      refine On.up (On.up (On.refl _) ?_) ?_ <;> (unfold k7; omega)
    have oA : On k7 I I2 := ((oL.trans (e5.mono (fun c k z => kRI_k7 z))).trans o2).trans (f4.mono (fun c k z => kMO_k7 z))
    have oB : On (fun c _ => 120 ≤ c) I1 I2 := by
      refine On.trans (On.up (On.up (On.refl _) ?_) ?_) (f4.mono (fun c k z => ?_))
      · omega
      · omega
      · unfold kMO kMB at z; omega
    refine ⟨nI (bun s.1 b a (gL s)).1, I1, J, I2, J, ?_, ?_, ⟨s, cm, K, b, a, ⟨ho, hK, c1, c2, c3⟩, hc2.on oB (by omega) (by omega) (fun p => by omega), fun k hk => ?_, ⟨?_, ?_⟩, Or.inr (e2.on oB (by omega) (fun p => by omega)), f2, f3⟩, oA.fr (fun c k z => k7_own z), Fr.refl _ _, Ptape_k7 oA⟩
    · unfold F_Ph_bundles F_Bu_limit F_Bu_howMany
      rw [show (1 : Int32) = nI 1 from rfl, if_neg (by rw [nI_ltI (by omega) (by omega)]; omega), show (30 : Int32) = nI 30 from rfl, if_neg (by rw [nI_ltI (by omega) (by omega)]; omega), if_pos (by rw [nI_leI (by omega) (by omega)]; exact c2), bd_s, show nI 1 = (1 : Int32) from rfl, e1, bd_s, bd_s, e2.1]
    · unfold F_Mo_bundles
      rw [m_is, bd_s, m_is, decide_eq_true (show (1 : Int32) ≤ nI a ∧ nI a ≤ nI b from ⟨by rw [show (1 : Int32) = nI 1 from rfl, nI_leI (by omega) (by omega)]; exact c1, by rw [nI_leI (by omega) (by omega)]; exact c2⟩), decide_eq_true (show (1 : Int32) ≤ nI b ∧ nI b ≤ 30 from ⟨by rw [show (1 : Int32) = nI 1 from rfl, nI_leI (by omega) (by omega)]; omega, by rw [show (30 : Int32) = nI 30 from rfl, nI_leI (by omega) (by omega)]; exact c3⟩), if_neg (by decide), bd_s, if_pos (by decide), f1, bd_s, f2.1]
    · rw [f4 162 k (by unfold kMO kMB; omega)]; exact hm2 k hk
    · rw [oB 95 5 (by omega)]; exact e4.2.2.1
    · rw [oB 95 6 (by omega)]; exact e4.2.2.2
  · refine st7_same hP (v := -1) ?_ ?_
    · unfold F_Ph_bundles
      by_cases z1 : x < 1
      · rw [if_pos z1]
      · rw [if_neg z1]
        by_cases z2 : 30 < y
        · rw [if_pos z2]
        · rw [if_neg z2, if_neg]
          intro z3
          exact c ⟨Int32.not_lt.mp z1, z3, Int32.not_lt.mp z2⟩
    · unfold F_Mo_bundles
      rw [m_is, bd_s]
      by_cases z1 : (1 : Int32) ≤ x ∧ x ≤ y
      · rw [decide_eq_true z1, if_neg (by decide), m_is, bd_s, decide_eq_false, if_neg (by decide)]
        intro z2
        exact c ⟨z1.1, z1.2, z2.2⟩
      · rw [decide_eq_false z1, if_pos (by decide)]
theorem st_bundle {x y : Int32} (hu : 400 ≤ u) (h : P7 t I J) : St7 t (F_Ph_bundle u x y) (F_Mo_bundle u x y) I J := by
  obtain ⟨s, cm, K, most, least, hq⟩ := h
  obtain ⟨I1, e1, e2, e3, e4⟩ := hq.ref hu
  have o7 : On k7 I I1 := e4.mono (fun c k z => kRI_k7 z)
  have hL := e2.2.1.1
  have hX := e2.2.2.2.2.2.1
  have ho := hq.1.1
  have hB : (bun s.1 most least (gL s)).1 ≤ s.1 := bun_le hL hq.1.2.2.1 hq.1.2.2.2.1 hq.1.2.2.2.2 (fun p hp => gL_lt ho hp) (fun p q hpq h => gL_mo ho hpq h)
  generalize bun s.1 most least (gL s) = X at *
  have key : ∀ v, F_Ph_bundle u x y I J = some (v, I1, J) → F_Mo_bundle u x y I1 J = some (v, I1, J) → St7 t (F_Ph_bundle u x y) (F_Mo_bundle u x y) I J := fun v a b => ⟨v, I1, J, I1, J, a, b, ⟨s, cm, K, most, least, e2⟩, o7.fr (fun c k z => k7_own z), Fr.refl _ _, Ptape_k7 o7⟩
  have ec : F_Ph_bundle u x y I J = cond (rng x X.1) (if x < 120 then (if y = nI 0 then cond (vq x 120) (some (I1 98 x.toNatClampNeg, I1, J)) none else if y = nI 1 then cond (vq x 120) (some (I1 99 x.toNatClampNeg, I1, J)) none else if y = nI 2 then cond (vq x 120) (some (I1 100 x.toNatClampNeg, I1, J)) none else some (-1, I1, J)) else some (-1, I1, J)) (some (-1, I1, J)) := by
    unfold F_Ph_bundle F_Bu_tell
    rw [e1, bd_s, e3.1, rng_if]
    unfold rng
    cases decide (0 ≤ x ∧ x < nI X.1) with
    | false => rfl
    | true =>
      simp only [cond_true]
      by_cases c : x < 120
      · simp only [if_pos c]
        by_cases y0 : y = nI 0
        · simp only [if_pos y0]; cases vq x 120 <;> rfl
        · simp only [if_neg y0]
          by_cases y1 : y = nI 1
          · simp only [if_pos y1]; cases vq x 120 <;> rfl
          · simp only [if_neg y1]
            by_cases y2 : y = nI 2
            · simp only [if_pos y2]; cases vq x 120 <;> rfl
            · simp only [if_neg y2]; rfl
      · simp only [if_neg c]; rfl
  have em : F_Mo_bundle u x y I1 J = cond (rng x X.1) (if y = nI 0 then cond (vq x 121) (some (I1 165 x.toNatClampNeg, I1, J)) none else if y = nI 1 then cond (vq x 121) (some (I1 166 x.toNatClampNeg, I1, J)) none else if y = nI 2 then cond (vq x 121) (some (I1 167 x.toNatClampNeg, I1, J)) none else some (-1, I1, J)) (some (-1, I1, J)) := by
    unfold F_Mo_bundle
    rw [hX.1, m_isB, bd_s, rgb_rng (by omega), b2i_ifn]
  cases hx : rng x X.1 with
  | false =>
    rw [hx] at ec em
    exact key _ ec em
  | true =>
    obtain ⟨k, hk, rfl⟩ := rng_n (by omega) hx
    rw [hx, cond_true, vqT (show k < 120 by omega) (by omega), nI_clamp (by omega), show (120 : Int32) = nI 120 from rfl, if_pos (by rw [nI_ltI (by omega) (by omega)]; omega)] at ec
    rw [hx, cond_true, vqT (show k < 121 by omega) (by omega), nI_clamp (by omega)] at em
    simp only [cond_true] at ec em
    have ca := e3.2.2 k hk
    have ma := hX.2.2 k hk
    rw [ca.1, ca.2.1, ca.2.2] at ec
    rw [ma.1, ma.2.1, ma.2.2] at em
    refine key (if y = nI 0 then X.2.2.1 k else if y = nI 1 then X.2.2.2.1 k else if y = nI 2 then X.2.2.2.2 k else -1) ?_ ?_
    · rw [ec]
      split
      · rfl
      · split
        · rfl
        · split <;> rfl
    · rw [em]
      split
      · rfl
      · split
        · rfl
        · split <;> rfl
theorem c_tell {x y : Int32} (hu : 400 ≤ u) (hq : Q7 t s cm K most least I J) (hy : ¬ y = 2) : ∃ v, F_Ma_tell u x y I J = some (v, I, J) ∧ F_Mo_letter u x y I J = some (v, I, J) := by
  obtain ⟨⟨ho, hK, h1, h2, h30⟩, hc, hm, ⟨h5, h6⟩, hs, hX, hw⟩ := hq
  have hL := hc.1
  have ehas : F_Ma_has u x I J = some (b2i (rng x s.1), I, J) := by
    unfold F_Ma_has
    rw [hc.2.2.2.2.1]
    unfold rng
    have r := rng_if (α := Option (Int32 × pm_II × pm_JJ)) (x := x) (y := nI s.1) (A := some (0, I, J)) (B := if (120 : Int32) ≤ x then some (0, I, J) else some (1, I, J))
    rw [r]
    cases hd : decide (0 ≤ x ∧ x < nI s.1) with
    | false => rfl
    | true =>
      have := of_decide_eq_true hd
      rw [cond_true, if_neg]
      · rfl
      · intro z
        have h3 : nI s.1 ≤ 120 := by rw [show (120 : Int32) = nI 120 from rfl, nI_leI (by omega) (by omega)]; exact hL
        rw [Int32.le_iff_toInt_le] at z h3
        have := this.2
        rw [Int32.lt_iff_toInt_lt] at this
        omega
  unfold F_Ma_tell F_Mo_letter
  rw [ehas, bd_s, hw.1, m_isB, bd_s, rgb_rng (by omega), b2i_ifn, b2i_ifn]
  cases hx : rng x s.1 with
  | false => exact ⟨_, rfl, rfl⟩
  | true =>
    obtain ⟨k, hk, rfl⟩ := rng_n (by omega) hx
    obtain ⟨o1, o2, o3⟩ := hw.2.1 k hk
    obtain ⟨c1, c2, c3⟩ := LC_g ho hc hk
    have m2 := (hm _ (oL_h ho hk).1).2
    rw [cond_true, cond_true, vqT (show k < 121 by omega) (by omega), nI_clamp (by omega), o1, vqT o2 (by omega), nI_clamp (by omega), cond_true, cond_true, m2]
    obtain ⟨l, l1, l2, l3⟩ := len_both (u := u) (I := I) (J := J) (i := k) (v := s.2.2 (oL s k)) (x1 := nI k) (x2 := y) (by omega) c2 8 0 u u (by omega) (by omega) (by omega)
    have l3' : F_Mo_letter_31 u u (nI k) y (s.2.2 (oL s k)) 0 I J = F_Mo_letter_54 u (nI k) y (s.2.2 (oL s k)) (nI l) I J := l3 I J
    have l2' : F_Ma_lengthOf u (nI k) I J = some (nI l, I, J) := l2
    rw [l3']
    unfold F_Mo_letter_54 F_Ma_tell_90
    rw [vqT (show k < 120 by omega) (by omega), vqT (show k < 121 by omega) (by omega), nI_clamp (by omega), c1, o1, vqT o2 (by omega), nI_clamp (by omega), o3]
    simp only [cond_true]
    by_cases y0 : y = nI 0
    · simp only [if_pos y0]; exact ⟨_, rfl, rfl⟩
    · simp only [if_neg y0]
      by_cases y1 : y = nI 1
      · simp only [if_pos y1]; rw [l2', bd_s]; exact ⟨_, rfl, rfl⟩
      · simp only [if_neg y1]
        have y2 : ¬ y = nI 2 := hy
        simp only [if_neg y2]
        by_cases y3 : y = nI 3
        · simp only [if_pos y3]; rw [c_came (by omega) ho hc hk, bd_s]; exact ⟨_, rfl, rfl⟩
        · simp only [if_neg y3]
          rw [l2', bd_s, m_isB, bd_s, b2i_if0]
          by_cases c : y < 10
          · have : rgb y 10 (9 + nI l) = false := by
              unfold rgb
              refine decide_eq_false (fun z => ?_)
              have := z.1
              exact absurd c (Int32.not_lt.mpr this)
            rw [if_pos c, this]; exact ⟨_, rfl, rfl⟩
          · obtain ⟨w, hw2, rfl⟩ := nI_of (x := y) (fun z => c (by
              rw [Int32.lt_iff_toInt_lt] at z ⊢
              have : (10 : Int32).toInt = 10 := rfl
              have : (0 : Int32).toInt = 0 := rfl
              omega))
            rw [if_neg c]
            rw [show (10 : Int32) = nI 10 from rfl, nI_ltI hw2 (by omega)] at c
            have e9 : (9 : Int32) + nI l = nI (9 + l) := by rw [show (9 : Int32) = nI 9 from rfl, nI_add]
            rw [e9, show (10 : Int32) = nI 10 from rfl, nI_sub2 (by omega)]
            by_cases q : w ≤ 9 + l
            · have hr : rgb (nI w) (nI 10) (nI (9 + l)) = true := by
                unfold rgb
                refine decide_eq_true ⟨?_, ?_⟩
                · rw [nI_leI (by omega) (by omega)]; omega
                · rw [nI_leI (by omega) (by omega)]; omega
              rw [if_pos (by rw [nI_ltI (by omega) (by omega)]; omega), hr, cond_true, c_byte (by omega) (by omega) c2, bd_s, m_byte (by omega), bd_s]; exact ⟨_, rfl, rfl⟩
            · have hr : rgb (nI w) (nI 10) (nI (9 + l)) = false := by
                unfold rgb
                refine decide_eq_false (fun z => ?_)
                have := z.2
                rw [nI_leI (by omega) (by omega)] at this
                omega
              rw [if_neg (by rw [nI_ltI (by omega) (by omega)]; omega), hr, cond_false]; exact ⟨_, rfl, rfl⟩
theorem rng_hasL {x : Int32} (hc : LC s cm K I J) : F_Ma_has u x I J = some (b2i (rng x s.1), I, J) := by
  have hL := hc.1
  unfold F_Ma_has
  rw [hc.2.2.2.2.1]
  unfold rng
  have r := rng_if (α := Option (Int32 × pm_II × pm_JJ)) (x := x) (y := nI s.1) (A := some (0, I, J)) (B := if (120 : Int32) ≤ x then some (0, I, J) else some (1, I, J))
  rw [r]
  cases hd : decide (0 ≤ x ∧ x < nI s.1) with
  | false => rfl
  | true =>
    have := of_decide_eq_true hd
    rw [cond_true, if_neg]
    · rfl
    · intro z
      have h3 : nI s.1 ≤ 120 := by rw [show (120 : Int32) = nI 120 from rfl, nI_leI (by omega) (by omega)]; exact hL
      rw [Int32.le_iff_toInt_le] at z h3
      have := this.2
      rw [Int32.lt_iff_toInt_lt] at this
      omega
theorem st_letter {x y : Int32} (hu : 400 ≤ u) (h : P7 t I J) : St7 t (F_Ph_letter u x y) (F_Mo_letter u x y) I J := by
  have hP := h
  obtain ⟨s, cm, K, most, least, hq⟩ := h
  by_cases hy : y = 2
  · obtain ⟨I1, e1, e2, e3, e4⟩ := hq.ref hu
    have o7 : On k7 I I1 := e4.mono (fun c k z => kRI_k7 z)
    have hL := e2.2.1.1
    have hX := e2.2.2.2.2.2.1
    have hw := e2.2.2.2.2.2.2
    have ho := hq.1.1
    have hm := e2.2.2.1
    have key : ∀ v, F_Ph_letter u x y I J = some (v, I1, J) → F_Mo_letter u x y I1 J = some (v, I1, J) → St7 t (F_Ph_letter u x y) (F_Mo_letter u x y) I J := fun v a b => ⟨v, I1, J, I1, J, a, b, ⟨s, cm, K, most, least, e2⟩, o7.fr (fun c k z => k7_own z), Fr.refl _ _, Ptape_k7 o7⟩
    have ec : F_Ph_letter u x y I J = cond (rng x s.1) (cond (vq x 120) (some (I1 96 x.toNatClampNeg, I1, J)) none) (some (-1, I1, J)) := by
      unfold F_Ph_letter F_Bu_bundleOf
      rw [if_neg (fun z => z hy), e1, bd_s, rng_hasL e2.2.1, bd_s, b2i_if0]
      cases rng x s.1 with
      | false => rfl
      | true => cases vq x 120 <;> rfl
    cases hx : rng x s.1 with
    | false =>
      rw [hx] at ec
      refine key _ ec ?_
      unfold F_Mo_letter
      rw [hw.1, m_isB, bd_s, rgb_rng (by omega), hx, b2i_ifn]
      rfl
    | true =>
      obtain ⟨k, hk, rfl⟩ := rng_n (by omega) hx
      rw [hx, cond_true, vqT (show k < 120 by omega) (by omega), nI_clamp (by omega), cond_true, e3.2.1 k hk] at ec
      refine key _ ec ?_
      obtain ⟨o1, o2, o3⟩ := hw.2.1 k hk
      obtain ⟨l, l1, l2, l3⟩ := len_both (u := u) (I := I1) (J := J) (i := k) (v := s.2.2 (oL s k)) (x1 := nI k) (x2 := y) (by omega) (LC_g ho e2.2.1 hk).2.1 8 0 u u (by omega) (by omega) (by omega)
      have l3' : F_Mo_letter_31 u u (nI k) y (s.2.2 (oL s k)) 0 I1 J = F_Mo_letter_54 u (nI k) y (s.2.2 (oL s k)) (nI l) I1 J := l3 I1 J
      unfold F_Mo_letter
      rw [hw.1, m_isB, bd_s, rgb_rng (by omega), hx, b2i_ifn, cond_true, vqT (show k < 121 by omega) (by omega), nI_clamp (by omega), o1, vqT o2 (by omega), nI_clamp (by omega), cond_true, cond_true, (hm _ (oL_h ho hk).1).2, l3']
      unfold F_Mo_letter_54
      subst hy
      rw [if_neg (by decide), if_neg (by decide), if_pos (show (2 : Int32) = nI 2 from rfl), vqT (show k < 121 by omega) (by omega), cond_true, nI_clamp (by omega), hX.2.1 k hk]
  · obtain ⟨v, a, b⟩ := c_tell (u := u) (x := x) hu hq hy
    refine st7_same hP (v := v) ?_ b
    unfold F_Ph_letter
    rw [if_pos hy, a, bd_s]
end Mail
