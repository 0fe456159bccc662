/-! ===== the press: key, aim, zone ===== -/
section KA
variable {u : Nat} {I : pm_II} {J : pm_JJ}
theorem rng8 {α : Type} {x : Int32} {A B : α} : (if x < 0 then A else if (8 : Int32) ≤ x then A else B) = cond (rgb x 0 7) B A := by
  rw [← rgb_if1]
  by_cases c : x < 0
  · rw [if_pos c, if_pos c]
  · obtain ⟨k, hk, rfl⟩ := nI_of c
    rw [if_neg c, if_neg c, nl_8, nl_7]
    by_cases d : 8 ≤ k
    · rw [if_pos (by rw [nI_leI (by omega) (by omega)]; exact d), if_pos (by rw [nI_ltI (by omega) (by omega)]; omega)]
    · rw [if_neg (by rw [nI_leI (by omega) (by omega)]; exact d), if_neg (by rw [nI_ltI (by omega) (by omega)]; omega)]
theorem st_key {x y : Int32} (h : P4 I J) : St4 u (F_Pr_turnKey u x y) (F_Mo_key u x y) I J := by
  have hP := h
  obtain ⟨Z, ZR, aim, tol, spo, key, cov, s, hb, hc, hm⟩ := h
  have e1 : F_Pr_turnKey u x y I J = cond (rgb x 0 7) (cond (rgb y 0 255) (cond (vq x 9) (cond (vq x 9) (some ((I 40 (x.toNatClampNeg)), (pm_up I 40 (x.toNatClampNeg) y), J)) none) none) (some (-1, I, J))) (some (-1, I, J)) := by
    unfold F_Pr_turnKey
    rw [rng8, rgb_if2]
  have e2 : ∀ I1, F_Mo_key u x y I1 J = cond (rgb x 0 7) (cond (rgb y 0 255) (cond (vq x 8) (cond (vq x 8) (some ((I1 139 (x.toNatClampNeg)), (pm_up I1 139 (x.toNatClampNeg) y), J)) none) none) (some (-1, I1, J))) (some (-1, I1, J)) := by
    intro I1
    unfold F_Mo_key
    rw [m_isB, bd_s, b2i_if0, m_isB, bd_s, b2i_ifn]
  cases hx : rgb x 0 7 with
  | false =>
    rw [hx] at e1
    exact st4_same hP e1 (by rw [e2 I, hx]; rfl)
  | true =>
    cases hy : rgb y 0 255 with
    | false =>
      rw [hx, hy] at e1
      exact st4_same hP e1 (by rw [e2 I, hx, hy]; rfl)
    | true =>
      obtain ⟨z, _, hz, rfl⟩ := rgb_n (lo := 0) (hi := 7) (by omega) (by omega) hx
      obtain ⟨v, _, hv, rfl⟩ := rgb_n (lo := 0) (hi := 255) (by omega) (by omega) hy
      rw [hx, hy, nI_clamp (by omega), vqT (show z < 9 by omega) (by omega), hc.2.1 z (by omega)] at e1
      have o : On k4 I (pm_up (pm_up I 40 z (nI v)) 139 z (nI v)) := On.up (On.up (On.refl _) (by unfold k4; omega)) (by unfold k4; omega)
      refine ⟨_, _, pm_up (pm_up I 40 z (nI v)) 139 z (nI v), J, e1, ?_, ⟨Z, ZR, aim, tol, spo, fun k => if k = z then v else key k, cov, s, ⟨hb.1, fun k hk => ?_, hb.2.2⟩, ⟨hc.1, fun k hk => ?_, hc.2.2⟩, ⟨hm.1, fun k hk => ?_, hm.2.2⟩⟩, o.fr (fun c k z => k4_own z), Fr.refl _ _, Ptape_k4 o⟩
      · rw [e2, hx, hy, nI_clamp (by omega), vqT (show z < 8 by omega) (by omega), ur, if_neg (by omega), hm.2.1 z (by omega)]
        rfl
      · dsimp only
        split
        · exact hv
        · exact hb.2.1 k hk
      · rw [ur, if_neg (by omega), ur]
        dsimp only
        by_cases q : k = z
        · rw [if_pos ⟨rfl, q⟩, if_pos q]
        · rw [if_neg (fun z => q z.2), if_neg q]; exact hc.2.1 k hk
      · rw [ur]
        dsimp only
        by_cases q : k = z
        · rw [if_pos ⟨rfl, q⟩, if_pos q]
        · rw [if_neg (fun z => q z.2), if_neg q, ur, if_neg (by omega)]; exact hm.2.1 k hk
theorem st_aim {x y z : Int32} (h : P4 I J) : St4 u (F_Pr_aimAt u x y z) (F_Mo_aim u x y z) I J := by
  have hP := h
  obtain ⟨Z, ZR, aim, tol, spo, key, cov, s, hb, hc, hm⟩ := h
  have e1 : F_Pr_aimAt u x y z I J = cond (rgb x 0 4000) (cond (rgb y 0 400) (cond (rgb z 0 99) (some (1, (pm_up (pm_up (pm_up I 39 9 x) 39 10 y) 39 11 z), J)) (some (-1, I, J))) (some (-1, I, J))) (some (-1, I, J)) := by
    unfold F_Pr_aimAt
    rw [rgb_if1, rgb_if2, rgb_if2]
  have e2 : ∀ I1, F_Mo_aim u x y z I1 J = cond (rgb x 0 4000) (cond (rgb y 0 400) (cond (rgb z 0 99) (some (1, (pm_up (pm_up (pm_up I1 120 34 x) 120 35 y) 120 36 z), J)) (some (-1, I1, J))) (some (-1, I1, J))) (some (-1, I1, J)) := by
    intro I1
    unfold F_Mo_aim
    rw [m_isB, bd_s, b2i_if0, m_isB, bd_s, b2i_if0, m_isB, bd_s, b2i_ifn]
  cases hx : rgb x 0 4000 with
  | false =>
    rw [hx] at e1
    exact st4_same hP e1 (by rw [e2 I, hx]; rfl)
  | true =>
    cases hy : rgb y 0 400 with
    | false =>
      rw [hx, hy] at e1
      exact st4_same hP e1 (by rw [e2 I, hx, hy]; rfl)
    | true =>
      cases hz : rgb z 0 99 with
      | false =>
        rw [hx, hy, hz] at e1
        exact st4_same hP e1 (by rw [e2 I, hx, hy, hz]; rfl)
      | true =>
        obtain ⟨a, _, ha, rfl⟩ := rgb_n (lo := 0) (hi := 4000) (by omega) (by omega) hx
        obtain ⟨t, _, ht, rfl⟩ := rgb_n (lo := 0) (hi := 400) (by omega) (by omega) hy
        obtain ⟨p, _, hp, rfl⟩ := rgb_n (lo := 0) (hi := 99) (by omega) (by omega) hz
        rw [hx, hy, hz] at e1
        have o : On k4 I (pm_up (pm_up (pm_up (pm_up (pm_up (pm_up I 39 9 (nI a)) 39 10 (nI t)) 39 11 (nI p)) 120 34 (nI a)) 120 35 (nI t)) 120 36 (nI p)) := by
          refine On.up (On.up (On.up (On.up (On.up (On.up (On.refl _) ?_) ?_) ?_) ?_) ?_) ?_ <;> (unfold k4; omega)
        refine ⟨_, _, pm_up (pm_up (pm_up (pm_up (pm_up (pm_up I 39 9 (nI a)) 39 10 (nI t)) 39 11 (nI p)) 120 34 (nI a)) 120 35 (nI t)) 120 36 (nI p), J, e1, ?_, ⟨Z, ZR, a, t, p, key, cov, s, ⟨⟨hb.1.1, hb.1.2.1, hb.1.2.2.1, ha, ht, hp⟩, hb.2⟩, ⟨⟨hc.1.1, rfl, rfl, rfl, hc.1.2.2.2.2.1, hc.1.2.2.2.2.2⟩, hc.2⟩, ⟨⟨hm.1.1, hm.1.2.1, rfl, rfl, rfl, hm.1.2.2.2.2.2.1, hm.1.2.2.2.2.2.2⟩, hm.2⟩⟩, o.fr (fun c k z => k4_own z), Fr.refl _ _, Ptape_k4 o⟩
        rw [e2, hx, hy, hz]
        rfl
theorem m_isZone {x : Int32} {Z : Nat} (hZ : Z ≤ 8) (h : I 120 32 = nI Z) : F_Mo_isZone u x I J = some (b2i (rng x Z), I, J) := by
  unfold F_Mo_isZone
  rw [h, m_isB, bd_s, rgb_rng (by omega), if_pos b2i_01]
theorem rng_if3 {α : Type} {x y : Int32} {A B : α} : (if x < 0 then A else if x < y then B else A) = cond (decide (0 ≤ x ∧ x < y)) B A := by
  rw [← rng_if]
  by_cases h1 : x < 0
  · rw [if_pos h1, if_pos h1]
  · rw [if_neg h1, if_neg h1]
    by_cases h2 : x < y
    · rw [if_pos h2, if_neg (Int32.not_le.mpr h2)]
    · rw [if_neg h2, if_pos (Int32.not_lt.mp h2)]
theorem st_zone {x y : Int32} (h : P4 I J) : ∃ v, F_Pr_tellZone u x y I J = some (v, I, J) ∧ F_Mo_zone u x y I J = some (v, I, J) := by
  obtain ⟨Z, ZR, aim, tol, spo, key, cov, s, hb, hc, hm⟩ := h
  have hZ := hb.1.1
  have hpr := hb.2.2.2.1
  unfold F_Pr_tellZone F_Mo_zone
  rw [rng_if3, hc.1.1, m_isZone hZ hm.1.1, bd_s, b2i_ifn]
  show ∃ v, cond (rng x Z) _ _ = _ ∧ _
  cases hx : rng x Z with
  | false => exact ⟨_, rfl, rfl⟩
  | true =>
    obtain ⟨z, hz, rfl⟩ := rng_n (by omega) hx
    obtain ⟨c1, c2, c3, c4⟩ := hc.2.2.2.1 z hz
    obtain ⟨m1, m2, m3, m4⟩ := hm.2.2.2.1 z hz
    obtain ⟨b1, b2⟩ := hb.2.2.2.2.1 z hz
    rw [nI_clamp (by omega), vqT (show z < 9 by omega) (by omega), vqT (show z < 8 by omega) (by omega)]
    simp only [cond_true]
    rw [(hc.2.2.1 z hz).1, hm.2.2.1 z hz, c1, c2, c3, c4, m1, m2, m3, m4, hc.2.1 z (by omega), hm.2.1 z (by omega), m_shown (by omega), m_shown (by omega), m_shown (by omega)]
    simp only [bd_s]
    split
    · exact ⟨_, rfl, rfl⟩
    · split
      · exact ⟨_, rfl, rfl⟩
      · split
        · exact ⟨_, rfl, rfl⟩
        · split
          · exact ⟨_, rfl, rfl⟩
          · split
            · exact ⟨_, rfl, rfl⟩
            · split
              · exact ⟨_, rfl, rfl⟩
              · exact ⟨_, rfl, rfl⟩
end KA
