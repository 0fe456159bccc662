def iniE : List (Nat × Nat × Int32) := [(17, 4, (-1)), (29, 6, 1), (29, 7, 2), (29, 8, 1), (29, 9, 1), (29, 10, 2), (29, 11, 1), (29, 13, 1), (30, 0, 108), (31, 1, 1), (31, 2, 2), (31, 3, 3), (31, 4, 4), (31, 5, 5), (31, 6, 6), (31, 7, 7), (31, 8, 8), (31, 9, 9), (31, 10, 10), (31, 11, 11), (31, 12, 12), (31, 13, 13), (31, 14, 14), (31, 15, 15), (31, 16, 16), (31, 17, 17), (31, 18, 18), (31, 19, 19), (31, 20, 20), (31, 21, 21), (31, 22, 22), (31, 23, 23), (31, 24, 24), (31, 25, 25), (31, 26, 26), (31, 27, 27), (31, 28, 28), (31, 29, 29), (31, 30, 30), (31, 31, 31), (31, 32, 32), (31, 33, 33), (31, 34, 34), (31, 35, 35), (31, 36, 36), (31, 37, 37), (31, 38, 38), (31, 39, 39), (31, 40, 40), (31, 41, 41), (31, 42, 42), (31, 43, 43), (31, 44, 44), (31, 45, 45), (31, 46, 46), (31, 47, 47), (31, 48, 48), (31, 49, 49), (31, 50, 50), (31, 51, 51), (31, 52, 52), (31, 53, 53), (31, 54, 54), (31, 55, 55), (31, 56, 56), (31, 57, 57), (31, 58, 58), (31, 59, 59), (31, 60, 60), (31, 61, 61), (31, 62, 62), (31, 63, 63), (32, 1, 1), (32, 2, 2), (32, 3, 3), (32, 4, 4), (32, 5, 5), (32, 6, 6), (32, 7, 7), (32, 8, 8), (32, 9, 9), (32, 10, 10), (32, 11, 11), (32, 12, 12), (32, 13, 13), (32, 14, 14), (32, 15, 15), (32, 16, 16), (32, 17, 17), (32, 18, 18), (32, 19, 19), (32, 20, 20), (32, 21, 21), (32, 22, 22), (32, 23, 23), (32, 24, 24), (32, 25, 25), (32, 26, 26), (32, 27, 27), (32, 28, 28), (32, 29, 29), (32, 30, 30), (32, 31, 31), (32, 32, 32), (32, 33, 33), (32, 34, 34), (32, 35, 35), (32, 36, 36), (32, 37, 37), (32, 38, 38), (32, 39, 39), (32, 40, 40), (32, 41, 41), (32, 42, 42), (32, 43, 43), (32, 44, 44), (32, 45, 45), (32, 46, 46), (32, 47, 47), (32, 48, 48), (32, 49, 49), (32, 50, 50), (32, 51, 51), (32, 52, 52), (32, 53, 53), (32, 54, 54), (32, 55, 55), (32, 56, 56), (32, 57, 57), (32, 58, 58), (32, 59, 59), (32, 60, 60), (32, 61, 61), (32, 62, 62), (32, 63, 63), (33, 1, 1), (34, 0, 1), (39, 9, 500), (39, 10, 50), (49, 0, 20), (49, 1, 20), (49, 2, 20), (49, 3, 20), (49, 4, 20), (49, 5, 20), (49, 6, 20), (49, 7, 20), (49, 8, 20), (49, 9, 20), (49, 10, 20), (49, 11, 20), (49, 12, 20), (49, 13, 20), (49, 14, 20), (49, 15, 20), (49, 16, 20), (49, 17, 20), (49, 18, 20), (49, 19, 20), (49, 20, 20), (49, 21, 20), (49, 22, 20), (49, 23, 20), (49, 24, 20), (49, 25, 20), (50, 0, 4), (50, 1, 4), (50, 2, 4), (50, 3, 4), (50, 4, 4), (50, 5, 4), (50, 6, 4), (50, 7, 4), (50, 8, 2), (50, 9, 2), (50, 10, 4), (50, 11, 2), (50, 12, 5), (50, 13, 4), (50, 14, 4), (50, 15, 4), (50, 16, 4), (50, 17, 4), (50, 18, 4), (50, 19, 4), (50, 20, 4), (50, 21, 4), (50, 22, 5), (50, 23, 4), (50, 24, 4), (50, 25, 4), (95, 5, 4), (95, 6, 10), (101, 9, 5), (120, 18, 1), (120, 19, 2), (120, 20, 1), (120, 22, 1), (120, 27, 1), (120, 34, 500), (120, 35, 50), (120, 75, 4), (120, 76, 10), (120, 86, 5), (131, 0, 108), (132, 1, 1), (133, 0, 1), (138, 1, 8), (138, 2, 2), (138, 3, 10), (138, 4, 12), (138, 5, 4), (138, 6, 14), (138, 7, 6), (138, 8, 3), (138, 9, 11), (138, 10, 1), (138, 11, 9), (138, 12, 15), (138, 13, 7), (138, 14, 13), (138, 15, 5), (146, 1, 20), (146, 2, 20), (146, 3, 20), (146, 4, 20), (146, 5, 20), (146, 6, 20), (146, 7, 20), (146, 8, 20), (146, 9, 20), (146, 10, 20), (146, 11, 20), (146, 12, 20), (146, 13, 20), (146, 14, 20), (146, 15, 20), (146, 16, 20), (146, 17, 20), (146, 18, 20), (146, 19, 20), (146, 20, 20), (146, 21, 20), (146, 22, 20), (146, 23, 20), (146, 24, 20), (146, 25, 20), (146, 26, 20), (147, 1, 4), (147, 2, 4), (147, 3, 4), (147, 4, 4), (147, 5, 4), (147, 6, 4), (147, 7, 4), (147, 8, 4), (147, 9, 2), (147, 10, 2), (147, 11, 4), (147, 12, 2), (147, 13, 5), (147, 14, 4), (147, 15, 4), (147, 16, 4), (147, 17, 4), (147, 18, 4), (147, 19, 4), (147, 20, 4), (147, 21, 4), (147, 22, 4), (147, 23, 5), (147, 24, 4), (147, 25, 4), (147, 26, 4)]
def eqI (l m : List (Nat × Nat × Int32)) : Bool := l.all (fun e => decide (lkI l e.1 e.2.1 = lkI m e.1 e.2.1)) && m.all (fun e => decide (lkI l e.1 e.2.1 = lkI m e.1 e.2.1))
theorem lkI_no {l : List (Nat × Nat × Int32)} {a k : Nat} (h : ∀ e ∈ l, ¬ (e.1 = a ∧ e.2.1 = k)) : lkI l a k = 0 := by
  induction l with
  | nil => rfl
  | cons e l ih =>
    have h1 := h e List.mem_cons_self
    have h2 := ih (fun e he => h e (List.mem_cons_of_mem _ he))
    unfold lkI
    cases ha : Nat.beq a e.1 with
    | false => exact h2
    | true => cases hk : Nat.beq k e.2.1 with
      | false => exact h2
      | true => exact absurd ⟨(Nat.eq_of_beq_eq_true ha).symm, (Nat.eq_of_beq_eq_true hk).symm⟩ h1
theorem eqI_eq {l m : List (Nat × Nat × Int32)} (h : eqI l m = true) (a k : Nat) : lkI l a k = lkI m a k := by
  obtain ⟨h1, h2⟩ := Bool.and_eq_true_iff.mp h
  by_cases g1 : ∃ e ∈ l, e.1 = a ∧ e.2.1 = k
  · obtain ⟨e, he, rfl, rfl⟩ := g1
    exact of_decide_eq_true (List.all_eq_true.mp h1 e he)
  · by_cases g2 : ∃ e ∈ m, e.1 = a ∧ e.2.1 = k
    · obtain ⟨e, he, rfl, rfl⟩ := g2
      exact of_decide_eq_true (List.all_eq_true.mp h2 e he)
    · rw [lkI_no (fun e he z => g1 ⟨e, he, z⟩), lkI_no (fun e he z => g2 ⟨e, he, z⟩)]
def eqV (v w : Value) : Bool := match v, w with
  | .ref a, .ref b => Nat.beq a b
  | .null, .null => true
  | _, _ => false
theorem eqV_eq {v w : Value} (h : eqV v w = true) : v = w := by
  unfold eqV at h
  split at h
  · rw [Nat.eq_of_beq_eq_true h]
  · rfl
  · cases h
abbrev g0 : Nat → Nat := fun j => 57 + 2 * j
def nR (a : Nat) : Nat := cond (Nat.blt (pm_sh a).1 100) (pm_cN (pm_sh a).1) (cond (Nat.beq (pm_sh a).1 103) (pm_sh a).2 0)
def eqR (l : List (Nat × Nat × Nat)) : Bool := (List.range 176).all (fun a => Nat.blt a 16 || (List.range (nR a)).all (fun k => eqV (lkR l a k) (pm_RT 110 115 g0 a k)))
theorem eqR_eq {l : List (Nat × Nat × Nat)} (h : eqR l = true) {a k : Nat} (ha : 16 ≤ a) (ha2 : a < 176) (hk : k < nR a) : lkR l a k = pm_RT 110 115 g0 a k := by
  have h1 := List.all_eq_true.mp h a (List.mem_range.mpr ha2)
  rcases Bool.or_eq_true_iff.mp h1 with g | g
  · have := Nat.le_of_ble_eq_true g
    omega
  · exact eqV_eq (List.all_eq_true.mp g k (List.mem_range.mpr hk))
abbrev ini1 : Option (Option Value × EH) := evx 4000 797 m_Ph_init 0 [.ref 16] [] (17, [], [])
abbrev ini2 (h : EH) : Option (Option Value × EH) := evx 4000 797 m_Mo_init 0 [.ref 120, .null] [] (121, h.2.1, h.2.2)
def iniB : Bool := match ini1 with
  | some (none, h1) => Nat.beq h1.1 120 && (enew h1 && (match ini2 h1 with
    | some (none, h2) => Nat.beq h2.1 176 && (eqI h2.2.1 iniE && eqR h2.2.2)
    | _ => false))
  | _ => false
theorem iniB_t : iniB = true := by decide +kernel
theorem ini_run : ∃ h1 h2 : EH, ini1 = some (none, h1) ∧ h1.1 = 120 ∧ enew h1 = true ∧ ini2 h1 = some (none, h2) ∧ h2.1 = 176 ∧ eqI h2.2.1 iniE = true ∧ eqR h2.2.2 = true := by
  have h := iniB_t
  unfold iniB at h
  split at h
  · rename_i h1 e1
    obtain ⟨a1, a⟩ := Bool.and_eq_true_iff.mp h
    obtain ⟨a2, a⟩ := Bool.and_eq_true_iff.mp a
    split at a
    · rename_i h2 e2
      obtain ⟨a3, a⟩ := Bool.and_eq_true_iff.mp a
      obtain ⟨a4, a5⟩ := Bool.and_eq_true_iff.mp a
      exact ⟨h1, h2, e1, Nat.eq_of_beq_eq_true a1, a2, e2, Nat.eq_of_beq_eq_true a3, a4, a5⟩
    · cases a
  · cases h
