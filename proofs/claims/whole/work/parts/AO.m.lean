section IniInv
variable {xs : Nat → Int32} {n : Nat}
theorem vI {a k : Nat} {v : Int32} (h : Nat.ble 16 a = true) (e : lkI iniE a k = v) : abI xs iniE a k = v := (abI_hi (Nat.le_of_ble_eq_true h) k).trans e
theorem vZ {a : Nat} (h : Nat.ble 16 a = true) (e : zI iniE a = true) (k : Nat) : abI xs iniE a k = 0 := vI h (zI_z e k)
theorem ini_tape : Ptape (abI xs iniE) := ⟨0, by decide, vI rfl (by decide +kernel), vI rfl (by decide +kernel), fun j hj => absurd hj (Nat.not_lt_zero _), fun j hj => absurd hj (Nat.not_lt_zero _)⟩
theorem ini_1 : P1 (abI xs iniE) := by
  refine ⟨0, 0, ⟨by decide, by decide⟩, ⟨vI rfl (by decide +kernel), vI rfl (by decide +kernel), vI rfl (by decide +kernel), vI rfl (by decide +kernel), ?_⟩, fun i hi => absurd hi (Nat.not_lt_zero _), fun k hk => absurd hk (Nat.not_lt_zero _), fun k _ _ => vZ rfl (by decide +kernel) k⟩
  exact (vI (v := 0) rfl (by decide +kernel)).trans (vI (v := 0) rfl (by decide +kernel)).symm
theorem ini_2 : P2 (abI xs iniE) := by
  refine ⟨1, 2, 1, 0, 1, id, id, fun p => decide (p = 0), fun _ => false, by decide, ⟨vI rfl (by decide +kernel), vI rfl (by decide +kernel), vI rfl (by decide +kernel), vI rfl (by decide +kernel), vI rfl (by decide +kernel)⟩, ⟨vI rfl (by decide +kernel), vI rfl (by decide +kernel), vI rfl (by decide +kernel), vI rfl (by decide +kernel), vI rfl (by decide +kernel)⟩, ?_, ?_, ?_⟩
  · intro p hp
    have hp : p < 2 := hp
    have e : ∀ p, p < 2 → lkI iniE 33 p = nI p ∧ lkI iniE 34 p = b2i (decide (p = 0)) ∧ lkI iniE 35 p = b2i false := by decide +kernel
    obtain ⟨e1, e2, e3⟩ := e p hp
    exact ⟨vI rfl e1, vI rfl e2, vI rfl e3, hp, rfl⟩
  · intro k hk
    have hk : k < 2 := hk
    have e : ∀ p, p < 2 → lkI iniE 31 p = nI p := by decide +kernel
    exact ⟨vI rfl (e k hk), hk, rfl⟩
  · intro r c hr hc
    have hr : r = 0 := by omega
    subst hr
    have e : ∀ p, p < 2 → lkI iniE 132 (8 * 0 + p) = nI (0 * 2 + p) ∧ lkI iniE 133 (8 * 0 + p) = b2i (decide (0 * 2 + p = 0)) ∧ lkI iniE 134 (8 * 0 + p) = b2i false := by decide +kernel
    obtain ⟨e1, e2, e3⟩ := e c hc
    exact ⟨vI rfl e1, vI rfl e2, vI rfl e3⟩
theorem ini_3 : P3 (abI xs iniE) := by
  refine ⟨fun i _ => (vZ rfl (by decide +kernel) i).trans (vZ rfl (by decide +kernel) i).symm, fun j hj => ?_⟩
  have e : ∀ j, j < 16 → lkI iniE 138 j = pm_con 1 j := by decide +kernel
  exact vI rfl (e j hj)
theorem ini_4 : P4 (abI xs iniE) (abJ n) := by
  refine ⟨0, 0, 500, 50, 0, fun _ => 0, fun _ => 0, (fun _ => 0, fun _ => 0, fun _ => 0, fun _ => 0, fun _ => false, 0, 0), ?_, ?_, ?_⟩
  · exact ⟨by decide, fun _ _ => Nat.zero_le _, fun _ _ => Nat.zero_le _, Nat.zero_le _, fun y hy => absurd hy (Nat.not_lt_zero _), rfl, rfl, fun _ _ => rfl⟩
  · refine ⟨⟨vI rfl (by decide +kernel), vI rfl (by decide +kernel), vI rfl (by decide +kernel), vI rfl (by decide +kernel), vI rfl (by decide +kernel), vI rfl (by decide +kernel)⟩, fun y _ => vZ rfl (by decide +kernel) y, fun y hy => absurd hy (Nat.not_lt_zero _), fun y hy => absurd hy (Nat.not_lt_zero _), fun w i _ _ => ?_⟩
    rw [vZ rfl (by decide +kernel) w]
    simp
  · exact ⟨⟨vI rfl (by decide +kernel), vI rfl (by decide +kernel), vI rfl (by decide +kernel), vI rfl (by decide +kernel), vI rfl (by decide +kernel), vI rfl (by decide +kernel), vI rfl (by decide +kernel)⟩, fun y _ => vZ rfl (by decide +kernel) y, fun y hy => absurd hy (Nat.not_lt_zero _), fun y hy => absurd hy (Nat.not_lt_zero _), fun k h1 h2 => absurd h2 (by show ¬ k ≤ 0; omega)⟩
theorem ini_5 : P5 g0 (abI xs iniE) := by
  refine ⟨⟨fun l hl => ⟨l, hl, rfl⟩, fun l m _ _ e => ?_⟩, fun k hk => ?_, 0, by decide, vI rfl (by decide +kernel), vI rfl (by decide +kernel), fun l hl => absurd hl (Nat.not_lt_zero _)⟩
  · have e : 57 + 2 * l = 57 + 2 * m := e
    omega
  · have e : ∀ k, k < 26 → lkI iniE 49 k = lkI iniE 146 (k + 1) ∧ lkI iniE 50 k = lkI iniE 147 (k + 1) ∧ (lkI iniE 50 k = nI 4 ∨ lkI iniE 50 k = nI 2 ∨ lkI iniE 50 k = nI 5) := by decide +kernel
    obtain ⟨e1, e2, e3⟩ := e k hk
    refine ⟨(vI rfl e1).trans (vI rfl rfl).symm, (vI rfl e2).trans (vI rfl rfl).symm, ?_⟩
    rcases e3 with e3 | e3 | e3
    · exact ⟨4, by decide, vI rfl e3⟩
    · exact ⟨2, by decide, vI rfl e3⟩
    · exact ⟨5, by decide, vI rfl e3⟩
theorem ini_6 : P6 110 (abI xs iniE) := ⟨0, by decide, vI rfl (by decide +kernel), vI rfl (by decide +kernel), fun k hk => absurd hk (Nat.not_lt_zero _)⟩
theorem ini_7 : P7 0 (abI xs iniE) (abJ n) := by
  have hb : ∀ g : Nat → Nat, (bun 0 10 4 g).1 = 0 := fun g => Nat.le_zero.mp (bun_le (L := 0) (by decide) (by decide) (by decide) (by decide) (fun p hp => absurd hp (Nat.not_lt_zero _)) (fun p q _ hq => absurd hq (Nat.not_lt_zero _)))
  have hx := hb (gL (0, fun _ => 0, fun _ => 0))
  refine ⟨(0, fun _ => 0, fun _ => 0), fun _ => 0, 0, 10, 4, ⟨⟨fun j k hj => absurd hj (Nat.not_lt_zero _), fun k hk => absurd hk (Nat.not_lt_zero _)⟩, by decide⟩, ?_, fun k hk => absurd hk (Nat.not_lt_zero _), ⟨vI rfl (by decide +kernel), vI rfl (by decide +kernel)⟩, Or.inr ⟨?_, fun p hp => absurd hp (Nat.not_lt_zero _), fun k hk => ?_⟩, ⟨?_, fun p hp => absurd hp (Nat.not_lt_zero _), fun k hk => ?_⟩, vI rfl (by decide +kernel), fun p hp => absurd hp (Nat.not_lt_zero _), vI rfl (by decide +kernel), vI rfl (by decide +kernel)⟩
  · exact ⟨Nat.zero_le _, Nat.le_of_ble_eq_true rfl, fun j k _ hk => absurd hk (Nat.not_lt_zero _), fun k hk => absurd hk (Nat.not_lt_zero _), vI rfl (by decide +kernel), vI rfl (by decide +kernel), fun k hk => absurd hk (Nat.not_lt_zero _)⟩
  · rw [hx]; exact vI rfl (by decide +kernel)
  · rw [hx] at hk; exact absurd hk (Nat.not_lt_zero _)
  · rw [hx]; exact vI rfl (by decide +kernel)
  · rw [hx] at hk; exact absurd hk (Nat.not_lt_zero _)
theorem ini_8 : P8 (abI xs iniE) := by
  refine ⟨0, fun _ => 0, fun _ => 0, fun _ => 0, fun _ => 0, 5, 0, ⟨by decide, fun _ => ⟨Nat.zero_le _, Nat.zero_le _, Nat.zero_le _, Nat.zero_le _⟩, by decide, by decide⟩, ⟨vI rfl (by decide +kernel), vI rfl (by decide +kernel), vI rfl (by decide +kernel), fun i hi => absurd hi (Nat.not_lt_zero _)⟩, ⟨vI rfl (by decide +kernel), vI rfl (by decide +kernel), vI rfl (by decide +kernel), fun i hi => absurd hi (Nat.not_lt_zero _)⟩, Or.inl ⟨vI rfl (by decide +kernel), ?_⟩, Or.inr (vI rfl (by decide +kernel))⟩
  exact ⟨0, fun k hk => absurd hk (Nat.not_lt_zero _), fun k hk => absurd hk (Nat.not_lt_zero _), ⟨0, 0, by decide +kernel⟩, vI rfl (by decide +kernel), vI rfl (by decide +kernel), vI rfl (by decide +kernel), fun k hk => absurd hk (Nat.not_lt_zero _), fun j w hj => absurd hj (Nat.not_lt_zero _)⟩
theorem ini_Inv : Inv 0 110 115 g0 (abI xs iniE) (abJ n) := ⟨⟨ini_tape, ini_1, ini_2, ini_3⟩, ⟨ini_4, ini_5, ini_6⟩, ⟨ini_7, ini_8⟩, Or.inl rfl, Or.inr rfl, by decide⟩
end IniInv
