theorem bk_Mo_pattern_0 {k : Nat} {pa pb : Nat} {ga : Nat → Nat} {I : pm_II} {J : pm_JJ} {Q : Option Value → pm_H → Prop} {x1 : Int32} {x2 : Int32} (h : Px k 176 m_Mo_is 0 [.int x1, .int 0, .int ((I 120 15) - (1 : Int32))] [] (hp I J (pm_RT pa pb ga)) (fun r h' => h'.1 = 176 ∧ Px (k + 1) 176 m_Mo_pattern 11 [.ref 120, .int x1, .int x2] (r.toList ++ []) h' Q)) : Px (k + 1) 176 m_Mo_pattern 0 [.ref 120, .int x1, .int x2] [] (hp I J (pm_RT pa pb ga)) Q := by
  refine x_l 1 rfl rfl rfl ?_
  refine z_k 2 0 rfl (by decide) rfl ?_
  refine x_l 3 rfl rfl rfl ?_
  refine z_gf 6 (.int (I 120 15)) rfl ⟨rfl, rfl, rfl⟩ rfl rfl ?_
  refine z_k 7 1 rfl (by decide) rfl ?_
  refine x_s 8 rfl rfl rfl ?_
  exact z_cs (As := [.int x1, .int 0, .int ((I 120 15) - (1 : Int32))]) (rest := []) rfl at_Mo_is rfl rfl (Nat.le_of_ble_eq_true rfl) (Nat.le_of_ble_eq_true rfl) rfl h

theorem bk_Mo_pattern_11 {k : Nat} {pa pb : Nat} {ga : Nat → Nat} {I : pm_II} {J : pm_JJ} {Q : Option Value → pm_H → Prop} {x1 : Int32} {x2 : Int32} {s0 : Int32} (h : ((s0 = 0 → Q (some (.int (-1))) (hp I J (pm_RT pa pb ga))) ∧ (¬ (s0 = 0) → Px k 176 m_Mo_is 0 [.int x2, .int (-1), .int ((I 120 14) - (1 : Int32))] [] (hp I J (pm_RT pa pb ga)) (fun r h' => h'.1 = 176 ∧ Px (k + 1) 176 m_Mo_pattern 25 [.ref 120, .int x1, .int x2] (r.toList ++ []) h' Q)))) : Px (k + 1) 176 m_Mo_pattern 11 [.ref 120, .int x1, .int x2] [.int s0] (hp I J (pm_RT pa pb ga)) Q := by
  refine x_b 14 rfl rfl rfl (fun c => ?_) (fun c => ?_)
  · have h := h.1 c
    refine z_k 29 (-1) rfl (by decide) rfl ?_
    exact x_ri rfl (Or.inl rfl) h
  · have h := h.2 c
    refine x_l 15 rfl rfl rfl ?_
    refine z_k 16 (-1) rfl (by decide) rfl ?_
    refine x_l 17 rfl rfl rfl ?_
    refine z_gf 20 (.int (I 120 14)) rfl ⟨rfl, rfl, rfl⟩ rfl rfl ?_
    refine z_k 21 1 rfl (by decide) rfl ?_
    refine x_s 22 rfl rfl rfl ?_
    exact z_cs (As := [.int x2, .int (-1), .int ((I 120 14) - (1 : Int32))]) (rest := []) rfl at_Mo_is rfl rfl (Nat.le_of_ble_eq_true rfl) (Nat.le_of_ble_eq_true rfl) rfl h

theorem bk_Mo_pattern_25 {k : Nat} {pa pb : Nat} {ga : Nat → Nat} {I : pm_II} {J : pm_JJ} {Q : Option Value → pm_H → Prop} {x1 : Int32} {x2 : Int32} {s0 : Int32} (h : ((¬ s0 = 0 → ((¬ x2 = (-1) → vp_in (((4 : Int32) * x1) + x2) 64 ∧ Q (some (.int (I 127 (((((4 : Int32) * x1) + x2) : Int32).toNatClampNeg)))) (hp I J (pm_RT pa pb ga))) ∧ (¬ (¬ x2 = (-1)) → Px k 176 m_Mo_waste 0 [.ref 120, .int x1, .null, .null] [] (hp I J (pm_RT pa pb ga)) (fun r h' => h'.1 = 176 ∧ Px (k + 1) 176 m_Mo_pattern 40 [.ref 120, .int x1, .int x2] (r.toList ++ []) h' Q)))) ∧ (¬ (¬ s0 = 0) → Q (some (.int (-1))) (hp I J (pm_RT pa pb ga))))) : Px (k + 1) 176 m_Mo_pattern 25 [.ref 120, .int x1, .int x2] [.int s0] (hp I J (pm_RT pa pb ga)) Q := by
  refine x_b 28 rfl rfl rfl (fun c => ?_) (fun c => ?_)
  · have h := h.1 c
    refine x_l 31 rfl rfl rfl ?_
    refine z_k 32 (-1) rfl (by decide) rfl ?_
    refine x_b 35 rfl rfl rfl (fun c => ?_) (fun c => ?_)
    · have h := h.1 c
      refine x_l 44 rfl rfl rfl ?_
      refine z_gf 47 (.ref 127) rfl ⟨rfl, rfl, rfl⟩ rfl rfl ?_
      refine z_k 48 4 rfl (by decide) rfl ?_
      refine x_l 49 rfl rfl rfl ?_
      refine x_s 50 rfl rfl rfl ?_
      refine x_l 51 rfl rfl rfl ?_
      refine x_s 52 rfl rfl rfl ?_
      have h1 := h.1
      have h := h.2
      refine z_il 53 64 rfl ⟨rfl, rfl, rfl⟩ rfl h1 rfl ?_
      exact x_ri rfl (Or.inl rfl) h
    · have h := h.2 c
      refine x_l 36 rfl rfl rfl ?_
      refine x_l 37 rfl rfl rfl ?_
      exact z_cv (As := [.int x1]) (rest := []) (b := 120) rfl at_Mo_waste rfl rfl (Nat.le_of_ble_eq_true rfl) (Nat.le_of_ble_eq_true rfl) ⟨rfl, rfl, rfl⟩ (by decide) rfl h
  · have h := h.2 c
    refine z_k 29 (-1) rfl (by decide) rfl ?_
    exact x_ri rfl (Or.inl rfl) h

theorem bk_Mo_pattern_40 {k : Nat} {pa pb : Nat} {ga : Nat → Nat} {I : pm_II} {J : pm_JJ} {Q : Option Value → pm_H → Prop} {x1 : Int32} {x2 : Int32} {s0 : Int32} (h : Q (some (.int s0)) (hp I J (pm_RT pa pb ga))) : Px (k + 1) 176 m_Mo_pattern 40 [.ref 120, .int x1, .int x2] [.int s0] (hp I J (pm_RT pa pb ga)) Q := by
  refine x_g rfl ?_
  exact x_ri rfl (Or.inl rfl) h

theorem bk_Mo_waste_0 {k : Nat} {pa pb : Nat} {ga : Nat → Nat} {I : pm_II} {J : pm_JJ} {Q : Option Value → pm_H → Prop} {x1 : Int32} (h : Px k 176 m_Mo_waste 7 [.ref 120, .int x1, .int (I 120 12), .int 0] [] (hp I J (pm_RT pa pb ga)) Q) : Px k 176 m_Mo_waste 0 [.ref 120, .int x1, .null, .null] [] (hp I J (pm_RT pa pb ga)) Q := by
  refine x_l 1 rfl rfl rfl ?_
  refine z_gf 4 (.int (I 120 12)) rfl ⟨rfl, rfl, rfl⟩ rfl rfl ?_
  refine x_t 5 rfl rfl rfl ?_
  refine z_k 6 0 rfl (by decide) rfl ?_
  refine x_t 7 rfl rfl rfl ?_
  exact h

theorem bk_Mo_waste_7 {k : Nat} {pa pb : Nat} {ga : Nat → Nat} {I : pm_II} {J : pm_JJ} {Q : Option Value → pm_H → Prop} {x1 : Int32} {x2 : Int32} {x3 : Int32} (h : (((I 120 14) ≤ x3 → Q (some (.int x2)) (hp I J (pm_RT pa pb ga))) ∧ (¬ ((I 120 14) ≤ x3) → vp_in (((4 : Int32) * x1) + x3) 64 ∧ vp_in x3 4 ∧ Px k 176 m_Mo_waste 7 [.ref 120, .int x1, .int (x2 - ((I 127 (((((4 : Int32) * x1) + x3) : Int32).toNatClampNeg)) * (I 123 ((x3 : Int32).toNatClampNeg)))), .int (x3 + Int32.ofInt 1)] [] (hp I J (pm_RT pa pb ga)) Q))) : Px k 176 m_Mo_waste 7 [.ref 120, .int x1, .int x2, .int x3] [] (hp I J (pm_RT pa pb ga)) Q := by
  refine x_l 8 rfl rfl rfl ?_
  refine x_l 9 rfl rfl rfl ?_
  refine z_gf 12 (.int (I 120 14)) rfl ⟨rfl, rfl, rfl⟩ rfl rfl ?_
  refine x_b 15 rfl rfl rfl (fun c => ?_) (fun c => ?_)
  · have h := h.1 c
    refine x_l 42 rfl rfl rfl ?_
    exact x_ri rfl (Or.inl rfl) h
  · have h := h.2 c
    refine x_l 16 rfl rfl rfl ?_
    refine x_l 17 rfl rfl rfl ?_
    refine z_gf 20 (.ref 127) rfl ⟨rfl, rfl, rfl⟩ rfl rfl ?_
    refine z_k 21 4 rfl (by decide) rfl ?_
    refine x_l 22 rfl rfl rfl ?_
    refine x_s 23 rfl rfl rfl ?_
    refine x_l 24 rfl rfl rfl ?_
    refine x_s 25 rfl rfl rfl ?_
    have h1 := h.1
    have h := h.2
    refine z_il 26 64 rfl ⟨rfl, rfl, rfl⟩ rfl h1 rfl ?_
    refine x_l 27 rfl rfl rfl ?_
    refine z_gf 30 (.ref 123) rfl ⟨rfl, rfl, rfl⟩ rfl rfl ?_
    refine x_l 31 rfl rfl rfl ?_
    have h1 := h.1
    have h := h.2
    refine z_il 32 4 rfl ⟨rfl, rfl, rfl⟩ rfl h1 rfl ?_
    refine x_s 33 rfl rfl rfl ?_
    refine x_s 34 rfl rfl rfl ?_
    refine x_t 35 rfl rfl rfl ?_
    refine x_t 38 rfl rfl rfl ?_
    refine x_g rfl ?_
    exact h

theorem bk_Mo_fold_0 {k : Nat} {pa pb : Nat} {ga : Nat → Nat} {I : pm_II} {J : pm_JJ} {Q : Option Value → pm_H → Prop} (h : Px k 176 m_Mo_take 0 [.ref 120, .null] [] (hp I J (pm_RT pa pb ga)) (fun r h' => h'.1 = 176 ∧ Px (k + 1) 176 m_Mo_fold 4 [.ref 120, .null, .null, .null, .null, .null, .null, .null] (r.toList ++ []) h' Q)) : Px (k + 1) 176 m_Mo_fold 0 [.ref 120, .null, .null, .null, .null, .null, .null, .null] [] (hp I J (pm_RT pa pb ga)) Q := by
  refine x_l 1 rfl rfl rfl ?_
  exact z_cv (As := []) (rest := []) (b := 120) rfl at_Mo_take rfl rfl (Nat.le_of_ble_eq_true rfl) (Nat.le_of_ble_eq_true rfl) ⟨rfl, rfl, rfl⟩ (by decide) rfl h

theorem bk_Mo_fold_4 {k : Nat} {pa pb : Nat} {ga : Nat → Nat} {I : pm_II} {J : pm_JJ} {Q : Option Value → pm_H → Prop} (h : Px k 176 m_Mo_isWord 0 [.ref 120, .ref 5, .null, .null, .null] [] (hp I J (pm_RT pa pb ga)) (fun r h' => h'.1 = 176 ∧ Px (k + 1) 176 m_Mo_fold 11 [.ref 120, .null, .null, .null, .null, .null, .null, .null] (r.toList ++ []) h' Q)) : Px (k + 1) 176 m_Mo_fold 4 [.ref 120, .null, .null, .null, .null, .null, .null, .null] [] (hp I J (pm_RT pa pb ga)) Q := by
  refine x_l 5 rfl rfl rfl ?_
  refine x_ls 8 rfl (Or.inr rfl) rfl ?_
  exact z_cv (As := [.ref 5]) (rest := []) (b := 120) rfl at_Mo_isWord rfl rfl (Nat.le_of_ble_eq_true rfl) (Nat.le_of_ble_eq_true rfl) ⟨rfl, rfl, rfl⟩ (by decide) rfl h

theorem bk_Mo_fold_11 {k : Nat} {pa pb : Nat} {ga : Nat → Nat} {I : pm_II} {J : pm_JJ} {Q : Option Value → pm_H → Prop} {s0 : Int32} (h : ((¬ s0 = 0 → Px (k + 1) 176 m_Mo_fold 19 [.ref 120, .null, .null, .null, .null, .null, .null, .null] [] (hp I J (pm_RT pa pb ga)) Q) ∧ (¬ (¬ s0 = 0) → Px k 176 m_Mo_fail 0 [.ref 120, .int 0] [] (hp I J (pm_RT pa pb ga)) (fun r h' => h'.1 = 176 ∧ Px (k + 1) 176 m_Mo_fold 19 [.ref 120, .null, .null, .null, .null, .null, .null, .null] (r.toList ++ []) h' Q)))) : Px (k + 1) 176 m_Mo_fold 11 [.ref 120, .null, .null, .null, .null, .null, .null, .null] [.int s0] (hp I J (pm_RT pa pb ga)) Q := by
  refine x_b 14 rfl rfl rfl (fun c => ?_) (fun c => ?_)
  · have h := h.1 c
    exact h
  · have h := h.2 c
    refine x_l 15 rfl rfl rfl ?_
    refine z_k 16 0 rfl (by decide) rfl ?_
    exact z_cv (As := [.int 0]) (rest := []) (b := 120) rfl at_Mo_fail rfl rfl (Nat.le_of_ble_eq_true rfl) (Nat.le_of_ble_eq_true rfl) ⟨rfl, rfl, rfl⟩ (by decide) rfl h

theorem bk_Mo_fold_19 {k : Nat} {pa pb : Nat} {ga : Nat → Nat} {I : pm_II} {J : pm_JJ} {Q : Option Value → pm_H → Prop} (h : Px k 176 m_Mo_power 0 [.ref 120, .null, .null] [] (hp I J (pm_RT pa pb ga)) (fun r h' => h'.1 = 176 ∧ Px (k + 1) 176 m_Mo_fold 23 [.ref 120, .null, .null, .null, .null, .null, .null, .null] (r.toList ++ []) h' Q)) : Px (k + 1) 176 m_Mo_fold 19 [.ref 120, .null, .null, .null, .null, .null, .null, .null] [] (hp I J (pm_RT pa pb ga)) Q := by
  refine x_l 20 rfl rfl rfl ?_
  exact z_cv (As := []) (rest := []) (b := 120) rfl at_Mo_power rfl rfl (Nat.le_of_ble_eq_true rfl) (Nat.le_of_ble_eq_true rfl) ⟨rfl, rfl, rfl⟩ (by decide) rfl h

theorem bk_Mo_fold_23 {k : Nat} {pa pb : Nat} {ga : Nat → Nat} {I : pm_II} {J : pm_JJ} {Q : Option Value → pm_H → Prop} {s0 : Int32} (h : Px k 176 m_Mo_power 0 [.ref 120, .null, .null] [] (hp I J (pm_RT pa pb ga)) (fun r h' => h'.1 = 176 ∧ Px (k + 1) 176 m_Mo_fold 28 [.ref 120, .int s0, .null, .null, .null, .null, .null, .null] (r.toList ++ []) h' Q)) : Px (k + 1) 176 m_Mo_fold 23 [.ref 120, .null, .null, .null, .null, .null, .null, .null] [.int s0] (hp I J (pm_RT pa pb ga)) Q := by
  refine x_t 24 rfl rfl rfl ?_
  refine x_l 25 rfl rfl rfl ?_
  exact z_cv (As := []) (rest := []) (b := 120) rfl at_Mo_power rfl rfl (Nat.le_of_ble_eq_true rfl) (Nat.le_of_ble_eq_true rfl) ⟨rfl, rfl, rfl⟩ (by decide) rfl h

theorem bk_Mo_fold_28 {k : Nat} {pa pb : Nat} {ga : Nat → Nat} {I : pm_II} {J : pm_JJ} {Q : Option Value → pm_H → Prop} {x1 : Int32} {s0 : Int32} (h : Px k 176 m_Mo_need 0 [.ref 120, .int 10] [] (hp I J (pm_RT pa pb ga)) (fun r h' => h'.1 = 176 ∧ Px (k + 1) 176 m_Mo_fold 35 [.ref 120, .int x1, .int s0, .null, .null, .null, .null, .null] (r.toList ++ []) h' Q)) : Px (k + 1) 176 m_Mo_fold 28 [.ref 120, .int x1, .null, .null, .null, .null, .null, .null] [.int s0] (hp I J (pm_RT pa pb ga)) Q := by
  refine x_t 29 rfl rfl rfl ?_
  refine x_l 30 rfl rfl rfl ?_
  refine z_k 32 10 rfl (by decide) rfl ?_
  exact z_cv (As := [.int 10]) (rest := []) (b := 120) rfl at_Mo_need rfl rfl (Nat.le_of_ble_eq_true rfl) (Nat.le_of_ble_eq_true rfl) ⟨rfl, rfl, rfl⟩ (by decide) rfl h

theorem bk_Mo_fold_35 {k : Nat} {pa pb : Nat} {ga : Nat → Nat} {I : pm_II} {J : pm_JJ} {Q : Option Value → pm_H → Prop} {x1 : Int32} {x2 : Int32} (h : Px k 176 m_Mo_bad 0 [.ref 120] [] (hp I J (pm_RT pa pb ga)) (fun r h' => h'.1 = 176 ∧ Px (k + 1) 176 m_Mo_fold 39 [.ref 120, .int x1, .int x2, .null, .null, .null, .null, .null] (r.toList ++ []) h' Q)) : Px (k + 1) 176 m_Mo_fold 35 [.ref 120, .int x1, .int x2, .null, .null, .null, .null, .null] [] (hp I J (pm_RT pa pb ga)) Q := by
  refine x_l 36 rfl rfl rfl ?_
  exact z_cv (As := []) (rest := []) (b := 120) rfl at_Mo_bad rfl rfl (Nat.le_of_ble_eq_true rfl) (Nat.le_of_ble_eq_true rfl) ⟨rfl, rfl, rfl⟩ (by decide) rfl h

theorem bk_Mo_fold_39 {k : Nat} {pa pb : Nat} {ga : Nat → Nat} {I : pm_II} {J : pm_JJ} {Q : Option Value → pm_H → Prop} {x1 : Int32} {x2 : Int32} {s0 : Int32} (h : ((¬ s0 = 0 → Px (k + 1) 176 m_Mo_fold 60 [.ref 120, .int x1, .int x2, .null, .null, .null, .null, .null] [] (hp I J (pm_RT pa pb ga)) Q) ∧ (¬ (¬ s0 = 0) → Px k 176 m_Mo_isWord 0 [.ref 120, .ref 6, .null, .null, .null] [] (hp I J (pm_RT pa pb ga)) (fun r h' => h'.1 = 176 ∧ Px (k + 1) 176 m_Mo_fold 49 [.ref 120, .int x1, .int x2, .null, .null, .null, .null, .null] (r.toList ++ []) h' Q)))) : Px (k + 1) 176 m_Mo_fold 39 [.ref 120, .int x1, .int x2, .null, .null, .null, .null, .null] [.int s0] (hp I J (pm_RT pa pb ga)) Q := by
  refine x_b 42 rfl rfl rfl (fun c => ?_) (fun c => ?_)
  · have h := h.1 c
    exact h
  · have h := h.2 c
    refine x_l 43 rfl rfl rfl ?_
    refine x_ls 46 rfl (Or.inr rfl) rfl ?_
    exact z_cv (As := [.ref 6]) (rest := []) (b := 120) rfl at_Mo_isWord rfl rfl (Nat.le_of_ble_eq_true rfl) (Nat.le_of_ble_eq_true rfl) ⟨rfl, rfl, rfl⟩ (by decide) rfl h

theorem bk_Mo_fold_49 {k : Nat} {pa pb : Nat} {ga : Nat → Nat} {I : pm_II} {J : pm_JJ} {Q : Option Value → pm_H → Prop} {x1 : Int32} {x2 : Int32} {s0 : Int32} (h : ((¬ s0 = 0 → Px (k + 1) 176 m_Mo_fold 60 [.ref 120, .int x1, .int x2, .null, .null, .null, .null, .null] [] (hp I J (pm_RT pa pb ga)) Q) ∧ (¬ (¬ s0 = 0) → Px k 176 m_Mo_fail 0 [.ref 120, .int (I 120 4)] [] (hp I J (pm_RT pa pb ga)) (fun r h' => h'.1 = 176 ∧ Px (k + 1) 176 m_Mo_fold 60 [.ref 120, .int x1, .int x2, .null, .null, .null, .null, .null] (r.toList ++ []) h' Q)))) : Px (k + 1) 176 m_Mo_fold 49 [.ref 120, .int x1, .int x2, .null, .null, .null, .null, .null] [.int s0] (hp I J (pm_RT pa pb ga)) Q := by
  refine x_b 52 rfl rfl rfl (fun c => ?_) (fun c => ?_)
  · have h := h.1 c
    exact h
  · have h := h.2 c
    refine x_l 53 rfl rfl rfl ?_
    refine x_l 54 rfl rfl rfl ?_
    refine z_gf 57 (.int (I 120 4)) rfl ⟨rfl, rfl, rfl⟩ rfl rfl ?_
    exact z_cv (As := [.int (I 120 4)]) (rest := []) (b := 120) rfl at_Mo_fail rfl rfl (Nat.le_of_ble_eq_true rfl) (Nat.le_of_ble_eq_true rfl) ⟨rfl, rfl, rfl⟩ (by decide) rfl h

theorem bk_Mo_fold_60 {k : Nat} {pa pb : Nat} {ga : Nat → Nat} {I : pm_II} {J : pm_JJ} {Q : Option Value → pm_H → Prop} {x1 : Int32} {x2 : Int32} (h : Px k 176 m_Mo_need 0 [.ref 120, .int 32] [] (hp I J (pm_RT pa pb ga)) (fun r h' => h'.1 = 176 ∧ Px (k + 1) 176 m_Mo_fold 66 [.ref 120, .int x1, .int x2, .null, .null, .null, .null, .null] (r.toList ++ []) h' Q)) : Px (k + 1) 176 m_Mo_fold 60 [.ref 120, .int x1, .int x2, .null, .null, .null, .null, .null] [] (hp I J (pm_RT pa pb ga)) Q := by
  refine x_l 61 rfl rfl rfl ?_
  refine z_k 63 32 rfl (by decide) rfl ?_
  exact z_cv (As := [.int 32]) (rest := []) (b := 120) rfl at_Mo_need rfl rfl (Nat.le_of_ble_eq_true rfl) (Nat.le_of_ble_eq_true rfl) ⟨rfl, rfl, rfl⟩ (by decide) rfl h

theorem bk_Mo_fold_66 {k : Nat} {pa pb : Nat} {ga : Nat → Nat} {I : pm_II} {J : pm_JJ} {Q : Option Value → pm_H → Prop} {x1 : Int32} {x2 : Int32} (h : Px k 176 m_Mo_bad 0 [.ref 120] [] (hp I J (pm_RT pa pb ga)) (fun r h' => h'.1 = 176 ∧ Px (k + 1) 176 m_Mo_fold 70 [.ref 120, .int x1, .int x2, .null, .null, .null, .null, .null] (r.toList ++ []) h' Q)) : Px (k + 1) 176 m_Mo_fold 66 [.ref 120, .int x1, .int x2, .null, .null, .null, .null, .null] [] (hp I J (pm_RT pa pb ga)) Q := by
  refine x_l 67 rfl rfl rfl ?_
  exact z_cv (As := []) (rest := []) (b := 120) rfl at_Mo_bad rfl rfl (Nat.le_of_ble_eq_true rfl) (Nat.le_of_ble_eq_true rfl) ⟨rfl, rfl, rfl⟩ (by decide) rfl h

theorem bk_Mo_fold_70 {k : Nat} {pa pb : Nat} {ga : Nat → Nat} {I : pm_II} {J : pm_JJ} {Q : Option Value → pm_H → Prop} {x1 : Int32} {x2 : Int32} {s0 : Int32} (h : ((s0 = 0 → Px k 176 m_Mo_halves 0 [.int x2] [] (hp I J (pm_RT pa pb ga)) (fun r h' => h'.1 = 176 ∧ Px (k + 1) 176 m_Mo_fold 81 [.ref 120, .int x1, .int x2, .null, .null, .null, .null, .null] (r.toList ++ []) h' Q)) ∧ (¬ (s0 = 0) → Px (k + 1) 176 m_Mo_fold 81 [.ref 120, .int x1, .int x2, .null, .null, .null, .null, .null] [.int 0] (hp I J (pm_RT pa pb ga)) Q))) : Px (k + 1) 176 m_Mo_fold 70 [.ref 120, .int x1, .int x2, .null, .null, .null, .null, .null] [.int s0] (hp I J (pm_RT pa pb ga)) Q := by
  refine x_b 73 rfl rfl rfl (fun c => ?_) (fun c => ?_)
  · have h := h.1 c
    refine x_l 78 rfl rfl rfl ?_
    exact z_cs (As := [.int x2]) (rest := []) rfl at_Mo_halves rfl rfl (Nat.le_of_ble_eq_true rfl) (Nat.le_of_ble_eq_true rfl) rfl h
  · have h := h.2 c
    refine z_k 74 0 rfl (by decide) rfl ?_
    refine x_g rfl ?_
    exact h

theorem bk_Mo_fold_81 {k : Nat} {pa pb : Nat} {ga : Nat → Nat} {I : pm_II} {J : pm_JJ} {Q : Option Value → pm_H → Prop} {x1 : Int32} {x2 : Int32} {s0 : Int32} (h : Px k 176 m_Mo_bad 0 [.ref 120] [] (hp I J (pm_RT pa pb ga)) (fun r h' => h'.1 = 176 ∧ Px (k + 1) 176 m_Mo_fold 86 [.ref 120, .int x1, .int x2, .int s0, .null, .null, .null, .null] (r.toList ++ []) h' Q)) : Px (k + 1) 176 m_Mo_fold 81 [.ref 120, .int x1, .int x2, .null, .null, .null, .null, .null] [.int s0] (hp I J (pm_RT pa pb ga)) Q := by
  refine x_t 82 rfl rfl rfl ?_
  refine x_l 83 rfl rfl rfl ?_
  exact z_cv (As := []) (rest := []) (b := 120) rfl at_Mo_bad rfl rfl (Nat.le_of_ble_eq_true rfl) (Nat.le_of_ble_eq_true rfl) ⟨rfl, rfl, rfl⟩ (by decide) rfl h

theorem bk_Mo_fold_86 {k : Nat} {pa pb : Nat} {ga : Nat → Nat} {I : pm_II} {J : pm_JJ} {Q : Option Value → pm_H → Prop} {x1 : Int32} {x2 : Int32} {x3 : Int32} {s0 : Int32} (h : ((s0 = 0 → Px k 176 m_Mo_halves 0 [.int x1] [] (hp I J (pm_RT pa pb ga)) (fun r h' => h'.1 = 176 ∧ Px (k + 1) 176 m_Mo_fold 97 [.ref 120, .int x1, .int x2, .int x3, .null, .null, .null, .null] (r.toList ++ []) h' Q)) ∧ (¬ (s0 = 0) → Px (k + 1) 176 m_Mo_fold 97 [.ref 120, .int x1, .int x2, .int x3, .null, .null, .null, .null] [.int 0] (hp I J (pm_RT pa pb ga)) Q))) : Px (k + 1) 176 m_Mo_fold 86 [.ref 120, .int x1, .int x2, .int x3, .null, .null, .null, .null] [.int s0] (hp I J (pm_RT pa pb ga)) Q := by
  refine x_b 89 rfl rfl rfl (fun c => ?_) (fun c => ?_)
  · have h := h.1 c
    refine x_l 94 rfl rfl rfl ?_
    exact z_cs (As := [.int x1]) (rest := []) rfl at_Mo_halves rfl rfl (Nat.le_of_ble_eq_true rfl) (Nat.le_of_ble_eq_true rfl) rfl h
  · have h := h.2 c
    refine z_k 90 0 rfl (by decide) rfl ?_
    refine x_g rfl ?_
    exact h

theorem bk_Mo_fold_97 {k : Nat} {pa pb : Nat} {ga : Nat → Nat} {I : pm_II} {J : pm_JJ} {Q : Option Value → pm_H → Prop} {x1 : Int32} {x2 : Int32} {x3 : Int32} {s0 : Int32} (h : Px (k + 1) 176 m_Mo_fold 102 [.ref 120, .int x1, .int x2, .int x3, .int s0, .int 0, .null, .null] [] (hp I J (pm_RT pa pb ga)) Q) : Px (k + 1) 176 m_Mo_fold 97 [.ref 120, .int x1, .int x2, .int x3, .null, .null, .null, .null] [.int s0] (hp I J (pm_RT pa pb ga)) Q := by
  refine x_t 99 rfl rfl rfl ?_
  refine z_k 100 0 rfl (by decide) rfl ?_
  refine x_t 102 rfl rfl rfl ?_
  exact h

theorem bk_Mo_fold_102 {k : Nat} {pa pb : Nat} {ga : Nat → Nat} {I : pm_II} {J : pm_JJ} {Q : Option Value → pm_H → Prop} {x1 : Int32} {x2 : Int32} {x3 : Int32} {x4 : Int32} {x5 : Int32} (h : Px k 176 m_Mo_bad 0 [.ref 120] [] (hp I J (pm_RT pa pb ga)) (fun r h' => h'.1 = 176 ∧ Px (k + 1) 176 m_Mo_fold 106 [.ref 120, .int x1, .int x2, .int x3, .int x4, .int x5, .null, .null] (r.toList ++ []) h' Q)) : Px (k + 1) 176 m_Mo_fold 102 [.ref 120, .int x1, .int x2, .int x3, .int x4, .int x5, .null, .null] [] (hp I J (pm_RT pa pb ga)) Q := by
  refine x_l 103 rfl rfl rfl ?_
  exact z_cv (As := []) (rest := []) (b := 120) rfl at_Mo_bad rfl rfl (Nat.le_of_ble_eq_true rfl) (Nat.le_of_ble_eq_true rfl) ⟨rfl, rfl, rfl⟩ (by decide) rfl h

theorem bk_Mo_fold_106 {k : Nat} {pa pb : Nat} {ga : Nat → Nat} {I : pm_II} {J : pm_JJ} {Q : Option Value → pm_H → Prop} {x1 : Int32} {x2 : Int32} {x3 : Int32} {x4 : Int32} {x5 : Int32} {s0 : Int32} (h : ((¬ s0 = 0 → Px (k + 1) 176 m_Mo_fold 238 [.ref 120, .int x1, .int x2, .int x3, .int x4, .int x5, .null, .null] [] (hp I J (pm_RT pa pb ga)) Q) ∧ (¬ (¬ s0 = 0) → (((x3 + x4) ≤ 0 → Px (k + 1) 176 m_Mo_fold 238 [.ref 120, .int x1, .int x2, .int x3, .int x4, .int x5, .null, .null] [] (hp I J (pm_RT pa pb ga)) Q) ∧ (¬ ((x3 + x4) ≤ 0) → Px k 176 m_Mo_here 0 [.ref 120] [] (hp I J (pm_RT pa pb ga)) (fun r h' => h'.1 = 176 ∧ Px (k + 1) 176 m_Mo_fold 120 [.ref 120, .int x1, .int x2, .int x3, .int x4, .int x5, .null, .null] (r.toList ++ []) h' Q)))))) : Px (k + 1) 176 m_Mo_fold 106 [.ref 120, .int x1, .int x2, .int x3, .int x4, .int x5, .null, .null] [.int s0] (hp I J (pm_RT pa pb ga)) Q := by
  refine x_b 109 rfl rfl rfl (fun c => ?_) (fun c => ?_)
  · have h := h.1 c
    exact h
  · have h := h.2 c
    refine x_l 110 rfl rfl rfl ?_
    refine x_l 112 rfl rfl rfl ?_
    refine x_s 113 rfl rfl rfl ?_
    refine x_b 116 rfl rfl rfl (fun c => ?_) (fun c => ?_)
    · have h := h.1 c
      exact h
    · have h := h.2 c
      refine x_l 117 rfl rfl rfl ?_
      exact z_cv (As := []) (rest := []) (b := 120) rfl at_Mo_here rfl rfl (Nat.le_of_ble_eq_true rfl) (Nat.le_of_ble_eq_true rfl) ⟨rfl, rfl, rfl⟩ (by decide) rfl h

theorem bk_Mo_fold_120 {k : Nat} {pa pb : Nat} {ga : Nat → Nat} {I : pm_II} {J : pm_JJ} {Q : Option Value → pm_H → Prop} {x1 : Int32} {x2 : Int32} {x3 : Int32} {x4 : Int32} {x5 : Int32} {s0 : Int32} (h : ((s0 = 108 → Px (k + 1) 176 m_Mo_fold 136 [.ref 120, .int x1, .int x2, .int x3, .int x4, .int x5, .int s0, .null] [] (hp I J (pm_RT pa pb ga)) Q) ∧ (¬ (s0 = 108) → ((¬ s0 = 114 → ((s0 = 116 → Px (k + 1) 176 m_Mo_fold 162 [.ref 120, .int x1, .int x2, .int x3, .int x4, .int x5, .int s0, .null] [] (hp I J (pm_RT pa pb ga)) Q) ∧ (¬ (s0 = 116) → ((¬ s0 = 98 → Px (k + 1) 176 m_Mo_fold 172 [.ref 120, .int x1, .int x2, .int x3, .int x4, .int x5, .int s0, .null] [.int 0] (hp I J (pm_RT pa pb ga)) Q) ∧ (¬ (¬ s0 = 98) → Px (k + 1) 176 m_Mo_fold 162 [.ref 120, .int x1, .int x2, .int x3, .int x4, .int x5, .int s0, .null] [] (hp I J (pm_RT pa pb ga)) Q))))) ∧ (¬ (¬ s0 = 114) → Px (k + 1) 176 m_Mo_fold 136 [.ref 120, .int x1, .int x2, .int x3, .int x4, .int x5, .int s0, .null] [] (hp I J (pm_RT pa pb ga)) Q))))) : Px (k + 1) 176 m_Mo_fold 120 [.ref 120, .int x1, .int x2, .int x3, .int x4, .int x5, .null, .null] [.int s0] (hp I J (pm_RT pa pb ga)) Q := by
  refine x_t 122 rfl rfl rfl ?_
  refine x_l 124 rfl rfl rfl ?_
  refine z_k 126 108 rfl (by decide) rfl ?_
  refine x_b 129 rfl rfl rfl (fun c => ?_) (fun c => ?_)
  · have h := h.1 c
    exact h
  · have h := h.2 c
    refine x_l 131 rfl rfl rfl ?_
    refine z_k 133 114 rfl (by decide) rfl ?_
    refine x_b 136 rfl rfl rfl (fun c => ?_) (fun c => ?_)
    · have h := h.1 c
      refine x_l 150 rfl rfl rfl ?_
      refine z_k 152 116 rfl (by decide) rfl ?_
      refine x_b 155 rfl rfl rfl (fun c => ?_) (fun c => ?_)
      · have h := h.1 c
        exact h
      · have h := h.2 c
        refine x_l 157 rfl rfl rfl ?_
        refine z_k 159 98 rfl (by decide) rfl ?_
        refine x_b 162 rfl rfl rfl (fun c => ?_) (fun c => ?_)
        · have h := h.1 c
          refine z_k 172 0 rfl (by decide) rfl ?_
          exact h
        · have h := h.2 c
          exact h
    · have h := h.2 c
      exact h

theorem bk_Mo_fold_136 {k : Nat} {pa pb : Nat} {ga : Nat → Nat} {I : pm_II} {J : pm_JJ} {Q : Option Value → pm_H → Prop} {x1 : Int32} {x2 : Int32} {x3 : Int32} {x4 : Int32} {x5 : Int32} {x6 : Int32} (h : ((x3 ≤ 0 → Px (k + 1) 176 m_Mo_fold 172 [.ref 120, .int x1, .int x2, .int x3, .int x4, .int x5, .int x6, .null] [.int 0] (hp I J (pm_RT pa pb ga)) Q) ∧ (¬ (x3 ≤ 0) → Px (k + 1) 176 m_Mo_fold 172 [.ref 120, .int x1, .int x2, .int x3, .int x4, .int x5, .int x6, .null] [.int 1] (hp I J (pm_RT pa pb ga)) Q))) : Px (k + 1) 176 m_Mo_fold 136 [.ref 120, .int x1, .int x2, .int x3, .int x4, .int x5, .int x6, .null] [] (hp I J (pm_RT pa pb ga)) Q := by
  refine x_l 137 rfl rfl rfl ?_
  refine x_b 140 rfl rfl rfl (fun c => ?_) (fun c => ?_)
  · have h := h.1 c
    refine z_k 145 0 rfl (by decide) rfl ?_
    refine x_g rfl ?_
    exact h
  · have h := h.2 c
    refine z_k 141 1 rfl (by decide) rfl ?_
    refine x_g rfl ?_
    exact h

theorem bk_Mo_fold_162 {k : Nat} {pa pb : Nat} {ga : Nat → Nat} {I : pm_II} {J : pm_JJ} {Q : Option Value → pm_H → Prop} {x1 : Int32} {x2 : Int32} {x3 : Int32} {x4 : Int32} {x5 : Int32} {x6 : Int32} (h : ((x4 ≤ 0 → Px (k + 1) 176 m_Mo_fold 172 [.ref 120, .int x1, .int x2, .int x3, .int x4, .int x5, .int x6, .null] [.int 0] (hp I J (pm_RT pa pb ga)) Q) ∧ (¬ (x4 ≤ 0) → Px (k + 1) 176 m_Mo_fold 172 [.ref 120, .int x1, .int x2, .int x3, .int x4, .int x5, .int x6, .null] [.int 1] (hp I J (pm_RT pa pb ga)) Q))) : Px (k + 1) 176 m_Mo_fold 162 [.ref 120, .int x1, .int x2, .int x3, .int x4, .int x5, .int x6, .null] [] (hp I J (pm_RT pa pb ga)) Q := by
  refine x_l 164 rfl rfl rfl ?_
  refine x_b 167 rfl rfl rfl (fun c => ?_) (fun c => ?_)
  · have h := h.1 c
    refine z_k 172 0 rfl (by decide) rfl ?_
    exact h
  · have h := h.2 c
    refine z_k 168 1 rfl (by decide) rfl ?_
    refine x_g rfl ?_
    exact h

theorem bk_Mo_fold_172 {k : Nat} {pa pb : Nat} {ga : Nat → Nat} {I : pm_II} {J : pm_JJ} {Q : Option Value → pm_H → Prop} {x1 : Int32} {x2 : Int32} {x3 : Int32} {x4 : Int32} {x5 : Int32} {x6 : Int32} {s0 : Int32} (h : ((¬ s0 = 0 → vp_in x5 6 ∧ ((x6 = 108 → Px (k + 1) 176 m_Mo_fold 102 [.ref 120, .int x1, .int x2, .int (x3 + Int32.ofInt (-1)), .int x4, .int (x5 + Int32.ofInt 1), .int x6, .int s0] [] (hp (pm_up (pm_up I 135 ((x5 : Int32).toNatClampNeg) x6) 120 4 ((I 120 4) + (1 : Int32))) J (pm_RT pa pb ga)) Q) ∧ (¬ (x6 = 108) → ((¬ x6 = 114 → Px (k + 1) 176 m_Mo_fold 102 [.ref 120, .int x1, .int x2, .int x3, .int (x4 + Int32.ofInt (-1)), .int (x5 + Int32.ofInt 1), .int x6, .int s0] [] (hp (pm_up (pm_up I 135 ((x5 : Int32).toNatClampNeg) x6) 120 4 ((I 120 4) + (1 : Int32))) J (pm_RT pa pb ga)) Q) ∧ (¬ (¬ x6 = 114) → Px (k + 1) 176 m_Mo_fold 102 [.ref 120, .int x1, .int x2, .int (x3 + Int32.ofInt (-1)), .int x4, .int (x5 + Int32.ofInt 1), .int x6, .int s0] [] (hp (pm_up (pm_up I 135 ((x5 : Int32).toNatClampNeg) x6) 120 4 ((I 120 4) + (1 : Int32))) J (pm_RT pa pb ga)) Q))))) ∧ (¬ (¬ s0 = 0) → Px k 176 m_Mo_fail 0 [.ref 120, .int (I 120 4)] [] (hp I J (pm_RT pa pb ga)) (fun r h' => h'.1 = 176 ∧ Px (k + 1) 176 m_Mo_fold 187 [.ref 120, .int x1, .int x2, .int x3, .int x4, .int x5, .int x6, .int s0] (r.toList ++ []) h' Q)))) : Px (k + 1) 176 m_Mo_fold 172 [.ref 120, .int x1, .int x2, .int x3, .int x4, .int x5, .int x6, .null] [.int s0] (hp I J (pm_RT pa pb ga)) Q := by
  refine x_t 174 rfl rfl rfl ?_
  refine x_l 176 rfl rfl rfl ?_
  refine x_b 179 rfl rfl rfl (fun c => ?_) (fun c => ?_)
  · have h := h.1 c
    refine x_l 191 rfl rfl rfl ?_
    refine z_gf 194 (.ref 135) rfl ⟨rfl, rfl, rfl⟩ rfl rfl ?_
    refine x_l 196 rfl rfl rfl ?_
    refine x_l 198 rfl rfl rfl ?_
    have h1 := h.1
    have h := h.2
    refine z_is 199 6 rfl ⟨rfl, rfl, rfl⟩ rfl h1 rfl ?_
    refine x_t 202 rfl rfl rfl ?_
    refine x_l 203 rfl rfl rfl ?_
    refine x_s 204 rfl rfl rfl ?_
    refine z_gf 207 (.int (I 120 4)) rfl ⟨rfl, rfl, rfl⟩ rfl rfl ?_
    refine z_k 208 1 rfl (by decide) rfl ?_
    refine x_s 209 rfl rfl rfl ?_
    refine z_pi 212 rfl (Or.inl rfl) rfl (fun z => by cases z) ⟨rfl, rfl, rfl⟩ rfl ?_
    refine x_l 214 rfl rfl rfl ?_
    refine z_k 216 108 rfl (by decide) rfl ?_
    refine x_b 219 rfl rfl rfl (fun c => ?_) (fun c => ?_)
    · have h := h.1 c
      refine x_t 229 rfl rfl rfl ?_
      refine x_g rfl ?_
      refine x_g rfl ?_
      exact h
    · have h := h.2 c
      refine x_l 221 rfl rfl rfl ?_
      refine z_k 223 114 rfl (by decide) rfl ?_
      refine x_b 226 rfl rfl rfl (fun c => ?_) (fun c => ?_)
      · have h := h.1 c
        refine x_t 235 rfl rfl rfl ?_
        refine x_g rfl ?_
        exact h
      · have h := h.2 c
        refine x_t 229 rfl rfl rfl ?_
        refine x_g rfl ?_
        refine x_g rfl ?_
        exact h
  · have h := h.2 c
    refine x_l 180 rfl rfl rfl ?_
    refine x_l 181 rfl rfl rfl ?_
    refine z_gf 184 (.int (I 120 4)) rfl ⟨rfl, rfl, rfl⟩ rfl rfl ?_
    exact z_cv (As := [.int (I 120 4)]) (rest := []) (b := 120) rfl at_Mo_fail rfl rfl (Nat.le_of_ble_eq_true rfl) (Nat.le_of_ble_eq_true rfl) ⟨rfl, rfl, rfl⟩ (by decide) rfl h

theorem bk_Mo_fold_187 {k : Nat} {pa pb : Nat} {ga : Nat → Nat} {I : pm_II} {J : pm_JJ} {Q : Option Value → pm_H → Prop} {x1 : Int32} {x2 : Int32} {x3 : Int32} {x4 : Int32} {x5 : Int32} {x6 : Int32} {x7 : Int32} (h : Px (k + 1) 176 m_Mo_fold 102 [.ref 120, .int x1, .int x2, .int x3, .int x4, .int x5, .int x6, .int x7] [] (hp I J (pm_RT pa pb ga)) Q) : Px (k + 1) 176 m_Mo_fold 187 [.ref 120, .int x1, .int x2, .int x3, .int x4, .int x5, .int x6, .int x7] [] (hp I J (pm_RT pa pb ga)) Q := by
  refine x_g rfl ?_
  exact h

theorem bk_Mo_fold_238 {k : Nat} {pa pb : Nat} {ga : Nat → Nat} {I : pm_II} {J : pm_JJ} {Q : Option Value → pm_H → Prop} {x1 : Int32} {x2 : Int32} {x3 : Int32} {x4 : Int32} {x5 : Int32} (h : Px k 176 m_Mo_need 0 [.ref 120, .int 10] [] (hp I J (pm_RT pa pb ga)) (fun r h' => h'.1 = 176 ∧ Px (k + 1) 176 m_Mo_fold 244 [.ref 120, .int x1, .int x2, .int x3, .int x4, .int x5, .null, .null] (r.toList ++ []) h' Q)) : Px (k + 1) 176 m_Mo_fold 238 [.ref 120, .int x1, .int x2, .int x3, .int x4, .int x5, .null, .null] [] (hp I J (pm_RT pa pb ga)) Q := by
  refine x_l 239 rfl rfl rfl ?_
  refine z_k 241 10 rfl (by decide) rfl ?_
  exact z_cv (As := [.int 10]) (rest := []) (b := 120) rfl at_Mo_need rfl rfl (Nat.le_of_ble_eq_true rfl) (Nat.le_of_ble_eq_true rfl) ⟨rfl, rfl, rfl⟩ (by decide) rfl h

theorem bk_Mo_fold_244 {k : Nat} {pa pb : Nat} {ga : Nat → Nat} {I : pm_II} {J : pm_JJ} {Q : Option Value → pm_H → Prop} {x1 : Int32} {x2 : Int32} {x3 : Int32} {x4 : Int32} {x5 : Int32} (h : Px k 176 m_Mo_bad 0 [.ref 120] [] (hp I J (pm_RT pa pb ga)) (fun r h' => h'.1 = 176 ∧ Px (k + 1) 176 m_Mo_fold 248 [.ref 120, .int x1, .int x2, .int x3, .int x4, .int x5, .null, .null] (r.toList ++ []) h' Q)) : Px (k + 1) 176 m_Mo_fold 244 [.ref 120, .int x1, .int x2, .int x3, .int x4, .int x5, .null, .null] [] (hp I J (pm_RT pa pb ga)) Q := by
  refine x_l 245 rfl rfl rfl ?_
  exact z_cv (As := []) (rest := []) (b := 120) rfl at_Mo_bad rfl rfl (Nat.le_of_ble_eq_true rfl) (Nat.le_of_ble_eq_true rfl) ⟨rfl, rfl, rfl⟩ (by decide) rfl h

theorem bk_Mo_fold_248 {k : Nat} {pa pb : Nat} {ga : Nat → Nat} {I : pm_II} {J : pm_JJ} {Q : Option Value → pm_H → Prop} {x1 : Int32} {x2 : Int32} {x3 : Int32} {x4 : Int32} {x5 : Int32} {s0 : Int32} (h : ((¬ s0 = 0 → Px (k + 1) 176 m_Mo_fold 270 [.ref 120, .int x1, .int x2, .int x3, .int x4, .int x5, .null, .null] [] (hp I J (pm_RT pa pb ga)) Q) ∧ (¬ (¬ s0 = 0) → (((I 120 3) ≤ (I 120 4) → Px (k + 1) 176 m_Mo_fold 270 [.ref 120, .int x1, .int x2, .int x3, .int x4, .int x5, .null, .null] [] (hp I J (pm_RT pa pb ga)) Q) ∧ (¬ ((I 120 3) ≤ (I 120 4)) → Px k 176 m_Mo_fail 0 [.ref 120, .int (I 120 4)] [] (hp I J (pm_RT pa pb ga)) (fun r h' => h'.1 = 176 ∧ Px (k + 1) 176 m_Mo_fold 270 [.ref 120, .int x1, .int x2, .int x3, .int x4, .int x5, .null, .null] (r.toList ++ []) h' Q)))))) : Px (k + 1) 176 m_Mo_fold 248 [.ref 120, .int x1, .int x2, .int x3, .int x4, .int x5, .null, .null] [.int s0] (hp I J (pm_RT pa pb ga)) Q := by
  refine x_b 251 rfl rfl rfl (fun c => ?_) (fun c => ?_)
  · have h := h.1 c
    exact h
  · have h := h.2 c
    refine x_l 252 rfl rfl rfl ?_
    refine z_gf 255 (.int (I 120 4)) rfl ⟨rfl, rfl, rfl⟩ rfl rfl ?_
    refine x_l 256 rfl rfl rfl ?_
    refine z_gf 259 (.int (I 120 3)) rfl ⟨rfl, rfl, rfl⟩ rfl rfl ?_
    refine x_b 262 rfl rfl rfl (fun c => ?_) (fun c => ?_)
    · have h := h.1 c
      exact h
    · have h := h.2 c
      refine x_l 263 rfl rfl rfl ?_
      refine x_l 264 rfl rfl rfl ?_
      refine z_gf 267 (.int (I 120 4)) rfl ⟨rfl, rfl, rfl⟩ rfl rfl ?_
      exact z_cv (As := [.int (I 120 4)]) (rest := []) (b := 120) rfl at_Mo_fail rfl rfl (Nat.le_of_ble_eq_true rfl) (Nat.le_of_ble_eq_true rfl) ⟨rfl, rfl, rfl⟩ (by decide) rfl h

theorem bk_Mo_fold_270 {k : Nat} {pa pb : Nat} {ga : Nat → Nat} {I : pm_II} {J : pm_JJ} {Q : Option Value → pm_H → Prop} {x1 : Int32} {x2 : Int32} {x3 : Int32} {x4 : Int32} {x5 : Int32} (h : Px k 176 m_Mo_bad 0 [.ref 120] [] (hp I J (pm_RT pa pb ga)) (fun r h' => h'.1 = 176 ∧ Px (k + 1) 176 m_Mo_fold 274 [.ref 120, .int x1, .int x2, .int x3, .int x4, .int x5, .null, .null] (r.toList ++ []) h' Q)) : Px (k + 1) 176 m_Mo_fold 270 [.ref 120, .int x1, .int x2, .int x3, .int x4, .int x5, .null, .null] [] (hp I J (pm_RT pa pb ga)) Q := by
  refine x_l 271 rfl rfl rfl ?_
  exact z_cv (As := []) (rest := []) (b := 120) rfl at_Mo_bad rfl rfl (Nat.le_of_ble_eq_true rfl) (Nat.le_of_ble_eq_true rfl) ⟨rfl, rfl, rfl⟩ (by decide) rfl h

theorem bk_Mo_fold_274 {k : Nat} {pa pb : Nat} {ga : Nat → Nat} {I : pm_II} {J : pm_JJ} {Q : Option Value → pm_H → Prop} {x1 : Int32} {x2 : Int32} {x3 : Int32} {x4 : Int32} {x5 : Int32} {s0 : Int32} (h : ((s0 = 0 → Px (k + 1) 176 m_Mo_fold 305 [.ref 120, .int x1, .int x2, .int x3, .int x4, .int x5, .int 0, .null] [] (hp (pm_up (pm_up (pm_up I 120 18 x1) 120 19 x2) 120 27 x5) J (pm_RT pa pb ga)) Q) ∧ (¬ (s0 = 0) → Q (some (.int (((-1000) : Int32) - (I 120 5)))) (hp I J (pm_RT pa pb ga))))) : Px (k + 1) 176 m_Mo_fold 274 [.ref 120, .int x1, .int x2, .int x3, .int x4, .int x5, .null, .null] [.int s0] (hp I J (pm_RT pa pb ga)) Q := by
  refine x_b 277 rfl rfl rfl (fun c => ?_) (fun c => ?_)
  · have h := h.1 c
    refine x_l 287 rfl rfl rfl ?_
    refine x_l 288 rfl rfl rfl ?_
    refine z_pi 291 rfl (Or.inl rfl) rfl (fun z => by cases z) ⟨rfl, rfl, rfl⟩ rfl ?_
    refine x_l 292 rfl rfl rfl ?_
    refine x_l 293 rfl rfl rfl ?_
    refine z_pi 296 rfl (Or.inl rfl) rfl (fun z => by cases z) ⟨rfl, rfl, rfl⟩ rfl ?_
    refine x_l 297 rfl rfl rfl ?_
    refine x_l 299 rfl rfl rfl ?_
    refine z_pi 302 rfl (Or.inl rfl) rfl (fun z => by cases z) ⟨rfl, rfl, rfl⟩ rfl ?_
    refine z_k 303 0 rfl (by decide) rfl ?_
    refine x_t 305 rfl rfl rfl ?_
    exact h
  · have h := h.2 c
    refine z_k 280 (-1000) rfl (by decide) rfl ?_
    refine x_l 281 rfl rfl rfl ?_
    refine z_gf 284 (.int (I 120 5)) rfl ⟨rfl, rfl, rfl⟩ rfl rfl ?_
    refine x_s 285 rfl rfl rfl ?_
    exact x_ri rfl (Or.inl rfl) h

theorem bk_Mo_fold_305 {k : Nat} {pa pb : Nat} {ga : Nat → Nat} {I : pm_II} {J : pm_JJ} {Q : Option Value → pm_H → Prop} {x1 : Int32} {x2 : Int32} {x3 : Int32} {x4 : Int32} {x5 : Int32} {x6 : Int32} (h : ((x5 ≤ x6 → Px k 176 m_Mo_turned 0 [.ref 120, .null, .null, .null, .null, .null, .null, .null, .null, .null, .null, .null, .null, .null, .null, .null, .null, .null] [] (hp I J (pm_RT pa pb ga)) (fun r h' => h'.1 = 176 ∧ Px (k + 1) 176 m_Mo_fold 336 [.ref 120, .int x1, .int x2, .int x3, .int x4, .int x5, .int x6, .null] (r.toList ++ []) h' Q)) ∧ (¬ (x5 ≤ x6) → vp_in x6 6 ∧ vp_in x6 6 ∧ Px (k + 1) 176 m_Mo_fold 305 [.ref 120, .int x1, .int x2, .int x3, .int x4, .int x5, .int (x6 + Int32.ofInt 1), .null] [] (hp (pm_up I 131 ((x6 : Int32).toNatClampNeg) (I 135 ((x6 : Int32).toNatClampNeg))) J (pm_RT pa pb ga)) Q))) : Px (k + 1) 176 m_Mo_fold 305 [.ref 120, .int x1, .int x2, .int x3, .int x4, .int x5, .int x6, .null] [] (hp I J (pm_RT pa pb ga)) Q := by
  refine x_l 307 rfl rfl rfl ?_
  refine x_l 309 rfl rfl rfl ?_
  refine x_b 312 rfl rfl rfl (fun c => ?_) (fun c => ?_)
  · have h := h.1 c
    refine x_l 333 rfl rfl rfl ?_
    exact z_cv (As := []) (rest := []) (b := 120) rfl at_Mo_turned rfl rfl (Nat.le_of_ble_eq_true rfl) (Nat.le_of_ble_eq_true rfl) ⟨rfl, rfl, rfl⟩ (by decide) rfl h
  · have h := h.2 c
    refine x_l 313 rfl rfl rfl ?_
    refine z_gf 316 (.ref 131) rfl ⟨rfl, rfl, rfl⟩ rfl rfl ?_
    refine x_l 318 rfl rfl rfl ?_
    refine x_l 319 rfl rfl rfl ?_
    refine z_gf 322 (.ref 135) rfl ⟨rfl, rfl, rfl⟩ rfl rfl ?_
    refine x_l 324 rfl rfl rfl ?_
    have h1 := h.1
    have h := h.2
    refine z_il 325 6 rfl ⟨rfl, rfl, rfl⟩ rfl h1 rfl ?_
    have h1 := h.1
    have h := h.2
    refine z_is 326 6 rfl ⟨rfl, rfl, rfl⟩ rfl h1 rfl ?_
    refine x_t 329 rfl rfl rfl ?_
    refine x_g rfl ?_
    exact h

theorem bk_Mo_fold_336 {k : Nat} {pa pb : Nat} {ga : Nat → Nat} {I : pm_II} {J : pm_JJ} {Q : Option Value → pm_H → Prop} {x1 : Int32} {x2 : Int32} {x3 : Int32} {x4 : Int32} {x5 : Int32} {x6 : Int32} (h : Q (some (.int ((I 120 18) * (I 120 19)))) (hp I J (pm_RT pa pb ga))) : Px (k + 1) 176 m_Mo_fold 336 [.ref 120, .int x1, .int x2, .int x3, .int x4, .int x5, .int x6, .null] [] (hp I J (pm_RT pa pb ga)) Q := by
  refine x_l 337 rfl rfl rfl ?_
  refine z_gf 340 (.int (I 120 18)) rfl ⟨rfl, rfl, rfl⟩ rfl rfl ?_
  refine x_l 341 rfl rfl rfl ?_
  refine z_gf 344 (.int (I 120 19)) rfl ⟨rfl, rfl, rfl⟩ rfl rfl ?_
  refine x_s 345 rfl rfl rfl ?_
  exact x_ri rfl (Or.inl rfl) h

theorem bk_Mo_power_0 {k : Nat} {pa pb : Nat} {ga : Nat → Nat} {I : pm_II} {J : pm_JJ} {Q : Option Value → pm_H → Prop} (h : Px k 176 m_Mo_need 0 [.ref 120, .int 32] [] (hp I J (pm_RT pa pb ga)) (fun r h' => h'.1 = 176 ∧ Px (k + 1) 176 m_Mo_power 6 [.ref 120, .null, .null] (r.toList ++ []) h' Q)) : Px (k + 1) 176 m_Mo_power 0 [.ref 120, .null, .null] [] (hp I J (pm_RT pa pb ga)) Q := by
  refine x_l 1 rfl rfl rfl ?_
  refine z_k 3 32 rfl (by decide) rfl ?_
  exact z_cv (As := [.int 32]) (rest := []) (b := 120) rfl at_Mo_need rfl rfl (Nat.le_of_ble_eq_true rfl) (Nat.le_of_ble_eq_true rfl) ⟨rfl, rfl, rfl⟩ (by decide) rfl h

theorem bk_Mo_power_6 {k : Nat} {pa pb : Nat} {ga : Nat → Nat} {I : pm_II} {J : pm_JJ} {Q : Option Value → pm_H → Prop} (h : Px k 176 m_Mo_told 0 [.ref 120, .int 1, .int 8, .null, .null] [] (hp I J (pm_RT pa pb ga)) (fun r h' => h'.1 = 176 ∧ Px (k + 1) 176 m_Mo_power 18 [.ref 120, .int (I 120 4), .null] (r.toList ++ []) h' Q)) : Px (k + 1) 176 m_Mo_power 6 [.ref 120, .null, .null] [] (hp I J (pm_RT pa pb ga)) Q := by
  refine x_l 7 rfl rfl rfl ?_
  refine z_gf 10 (.int (I 120 4)) rfl ⟨rfl, rfl, rfl⟩ rfl rfl ?_
  refine x_t 11 rfl rfl rfl ?_
  refine x_l 12 rfl rfl rfl ?_
  refine z_k 13 1 rfl (by decide) rfl ?_
  refine z_k 15 8 rfl (by decide) rfl ?_
  exact z_cv (As := [.int 1, .int 8]) (rest := []) (b := 120) rfl at_Mo_told rfl rfl (Nat.le_of_ble_eq_true rfl) (Nat.le_of_ble_eq_true rfl) ⟨rfl, rfl, rfl⟩ (by decide) rfl h

theorem bk_Mo_power_18 {k : Nat} {pa pb : Nat} {ga : Nat → Nat} {I : pm_II} {J : pm_JJ} {Q : Option Value → pm_H → Prop} {x1 : Int32} {s0 : Int32} (h : Px k 176 m_Mo_bad 0 [.ref 120] [] (hp I J (pm_RT pa pb ga)) (fun r h' => h'.1 = 176 ∧ Px (k + 1) 176 m_Mo_power 23 [.ref 120, .int x1, .int s0] (r.toList ++ []) h' Q)) : Px (k + 1) 176 m_Mo_power 18 [.ref 120, .int x1, .null] [.int s0] (hp I J (pm_RT pa pb ga)) Q := by
  refine x_t 19 rfl rfl rfl ?_
  refine x_l 20 rfl rfl rfl ?_
  exact z_cv (As := []) (rest := []) (b := 120) rfl at_Mo_bad rfl rfl (Nat.le_of_ble_eq_true rfl) (Nat.le_of_ble_eq_true rfl) ⟨rfl, rfl, rfl⟩ (by decide) rfl h

theorem bk_Mo_power_23 {k : Nat} {pa pb : Nat} {ga : Nat → Nat} {I : pm_II} {J : pm_JJ} {Q : Option Value → pm_H → Prop} {x1 : Int32} {x2 : Int32} {s0 : Int32} (h : ((¬ s0 = 0 → Px (k + 1) 176 m_Mo_power 52 [.ref 120, .int x1, .int x2] [] (hp I J (pm_RT pa pb ga)) Q) ∧ (¬ (¬ s0 = 0) → ((x2 = 1 → Px (k + 1) 176 m_Mo_power 52 [.ref 120, .int x1, .int x2] [] (hp I J (pm_RT pa pb ga)) Q) ∧ (¬ (x2 = 1) → ((x2 = 2 → Px (k + 1) 176 m_Mo_power 52 [.ref 120, .int x1, .int x2] [] (hp I J (pm_RT pa pb ga)) Q) ∧ (¬ (x2 = 2) → ((x2 = 4 → Px (k + 1) 176 m_Mo_power 52 [.ref 120, .int x1, .int x2] [] (hp I J (pm_RT pa pb ga)) Q) ∧ (¬ (x2 = 4) → ((x2 = 8 → Px (k + 1) 176 m_Mo_power 52 [.ref 120, .int x1, .int x2] [] (hp I J (pm_RT pa pb ga)) Q) ∧ (¬ (x2 = 8) → Px k 176 m_Mo_fail 0 [.ref 120, .int x1] [] (hp I J (pm_RT pa pb ga)) (fun r h' => h'.1 = 176 ∧ Px (k + 1) 176 m_Mo_power 52 [.ref 120, .int x1, .int x2] (r.toList ++ []) h' Q)))))))))))) : Px (k + 1) 176 m_Mo_power 23 [.ref 120, .int x1, .int x2] [.int s0] (hp I J (pm_RT pa pb ga)) Q := by
  refine x_b 26 rfl rfl rfl (fun c => ?_) (fun c => ?_)
  · have h := h.1 c
    exact h
  · have h := h.2 c
    refine x_l 27 rfl rfl rfl ?_
    refine z_k 28 1 rfl (by decide) rfl ?_
    refine x_b 31 rfl rfl rfl (fun c => ?_) (fun c => ?_)
    · have h := h.1 c
      exact h
    · have h := h.2 c
      refine x_l 32 rfl rfl rfl ?_
      refine z_k 33 2 rfl (by decide) rfl ?_
      refine x_b 36 rfl rfl rfl (fun c => ?_) (fun c => ?_)
      · have h := h.1 c
        exact h
      · have h := h.2 c
        refine x_l 37 rfl rfl rfl ?_
        refine z_k 38 4 rfl (by decide) rfl ?_
        refine x_b 41 rfl rfl rfl (fun c => ?_) (fun c => ?_)
        · have h := h.1 c
          exact h
        · have h := h.2 c
          refine x_l 42 rfl rfl rfl ?_
          refine z_k 44 8 rfl (by decide) rfl ?_
          refine x_b 47 rfl rfl rfl (fun c => ?_) (fun c => ?_)
          · have h := h.1 c
            exact h
          · have h := h.2 c
            refine x_l 48 rfl rfl rfl ?_
            refine x_l 49 rfl rfl rfl ?_
            exact z_cv (As := [.int x1]) (rest := []) (b := 120) rfl at_Mo_fail rfl rfl (Nat.le_of_ble_eq_true rfl) (Nat.le_of_ble_eq_true rfl) ⟨rfl, rfl, rfl⟩ (by decide) rfl h

theorem bk_Mo_power_52 {k : Nat} {pa pb : Nat} {ga : Nat → Nat} {I : pm_II} {J : pm_JJ} {Q : Option Value → pm_H → Prop} {x1 : Int32} {x2 : Int32} (h : Q (some (.int x2)) (hp I J (pm_RT pa pb ga))) : Px (k + 1) 176 m_Mo_power 52 [.ref 120, .int x1, .int x2] [] (hp I J (pm_RT pa pb ga)) Q := by
  refine x_l 53 rfl rfl rfl ?_
  exact x_ri rfl (Or.inl rfl) h

theorem bk_Mo_halves_0 {k : Nat} {pa pb : Nat} {ga : Nat → Nat} {I : pm_II} {J : pm_JJ} {Q : Option Value → pm_H → Prop} {x0 : Int32} (h : ((¬ x0 = 1 → ((¬ x0 = 2 → ((¬ x0 = 4 → Q (some (.int 3)) (hp I J (pm_RT pa pb ga))) ∧ (¬ (¬ x0 = 4) → Q (some (.int 2)) (hp I J (pm_RT pa pb ga))))) ∧ (¬ (¬ x0 = 2) → Q (some (.int 1)) (hp I J (pm_RT pa pb ga))))) ∧ (¬ (¬ x0 = 1) → Q (some (.int 0)) (hp I J (pm_RT pa pb ga))))) : Px k 176 m_Mo_halves 0 [.int x0] [] (hp I J (pm_RT pa pb ga)) Q := by
  refine x_l 1 rfl rfl rfl ?_
  refine z_k 2 1 rfl (by decide) rfl ?_
  refine x_b 5 rfl rfl rfl (fun c => ?_) (fun c => ?_)
  · have h := h.1 c
    refine x_l 10 rfl rfl rfl ?_
    refine z_k 11 2 rfl (by decide) rfl ?_
    refine x_b 14 rfl rfl rfl (fun c => ?_) (fun c => ?_)
    · have h := h.1 c
      refine x_l 19 rfl rfl rfl ?_
      refine z_k 20 4 rfl (by decide) rfl ?_
      refine x_b 23 rfl rfl rfl (fun c => ?_) (fun c => ?_)
      · have h := h.1 c
        refine z_k 28 3 rfl (by decide) rfl ?_
        exact x_ri rfl (Or.inl rfl) h
      · have h := h.2 c
        refine z_k 24 2 rfl (by decide) rfl ?_
        refine x_g rfl ?_
        exact x_ri rfl (Or.inl rfl) h
    · have h := h.2 c
      refine z_k 15 1 rfl (by decide) rfl ?_
      refine x_g rfl ?_
      exact x_ri rfl (Or.inl rfl) h
  · have h := h.2 c
    refine z_k 6 0 rfl (by decide) rfl ?_
    refine x_g rfl ?_
    exact x_ri rfl (Or.inl rfl) h

theorem bk_Mo_book_0 {k : Nat} {pa pb : Nat} {ga : Nat → Nat} {I : pm_II} {J : pm_JJ} {Q : Option Value → pm_H → Prop} {x1 : Int32} {x2 : Int32} {x3 : Int32} (h : Px k 176 m_Mo_is 0 [.int x1, .int 1, .int 8] [] (hp I J (pm_RT pa pb ga)) (fun r h' => h'.1 = 176 ∧ Px (k + 1) 176 m_Mo_book 7 [.ref 120, .int x1, .int x2, .int x3] (r.toList ++ []) h' Q)) : Px (k + 1) 176 m_Mo_book 0 [.ref 120, .int x1, .int x2, .int x3] [] (hp I J (pm_RT pa pb ga)) Q := by
  refine x_l 1 rfl rfl rfl ?_
  refine z_k 2 1 rfl (by decide) rfl ?_
  refine z_k 4 8 rfl (by decide) rfl ?_
  exact z_cs (As := [.int x1, .int 1, .int 8]) (rest := []) rfl at_Mo_is rfl rfl (Nat.le_of_ble_eq_true rfl) (Nat.le_of_ble_eq_true rfl) rfl h

theorem bk_Mo_book_7 {k : Nat} {pa pb : Nat} {ga : Nat → Nat} {I : pm_II} {J : pm_JJ} {Q : Option Value → pm_H → Prop} {x1 : Int32} {x2 : Int32} {x3 : Int32} {s0 : Int32} (h : ((s0 = 0 → Q (some (.int (-1))) (hp I J (pm_RT pa pb ga))) ∧ (¬ (s0 = 0) → Px k 176 m_Mo_is 0 [.int x2, .int 0, .int 1] [] (hp I J (pm_RT pa pb ga)) (fun r h' => h'.1 = 176 ∧ Px (k + 1) 176 m_Mo_book 16 [.ref 120, .int x1, .int x2, .int x3] (r.toList ++ []) h' Q)))) : Px (k + 1) 176 m_Mo_book 7 [.ref 120, .int x1, .int x2, .int x3] [.int s0] (hp I J (pm_RT pa pb ga)) Q := by
  refine x_b 10 rfl rfl rfl (fun c => ?_) (fun c => ?_)
  · have h := h.1 c
    refine z_k 30 (-1) rfl (by decide) rfl ?_
    exact x_ri rfl (Or.inl rfl) h
  · have h := h.2 c
    refine x_l 11 rfl rfl rfl ?_
    refine z_k 12 0 rfl (by decide) rfl ?_
    refine z_k 13 1 rfl (by decide) rfl ?_
    exact z_cs (As := [.int x2, .int 0, .int 1]) (rest := []) rfl at_Mo_is rfl rfl (Nat.le_of_ble_eq_true rfl) (Nat.le_of_ble_eq_true rfl) rfl h

theorem bk_Mo_book_16 {k : Nat} {pa pb : Nat} {ga : Nat → Nat} {I : pm_II} {J : pm_JJ} {Q : Option Value → pm_H → Prop} {x1 : Int32} {x2 : Int32} {x3 : Int32} {s0 : Int32} (h : ((s0 = 0 → Q (some (.int (-1))) (hp I J (pm_RT pa pb ga))) ∧ (¬ (s0 = 0) → Px k 176 m_Mo_is 0 [.int x3, .int 1, .int 99] [] (hp I J (pm_RT pa pb ga)) (fun r h' => h'.1 = 176 ∧ Px (k + 1) 176 m_Mo_book 26 [.ref 120, .int x1, .int x2, .int x3] (r.toList ++ []) h' Q)))) : Px (k + 1) 176 m_Mo_book 16 [.ref 120, .int x1, .int x2, .int x3] [.int s0] (hp I J (pm_RT pa pb ga)) Q := by
  refine x_b 19 rfl rfl rfl (fun c => ?_) (fun c => ?_)
  · have h := h.1 c
    refine z_k 30 (-1) rfl (by decide) rfl ?_
    exact x_ri rfl (Or.inl rfl) h
  · have h := h.2 c
    refine x_l 20 rfl rfl rfl ?_
    refine z_k 21 1 rfl (by decide) rfl ?_
    refine z_k 23 99 rfl (by decide) rfl ?_
    exact z_cs (As := [.int x3, .int 1, .int 99]) (rest := []) rfl at_Mo_is rfl rfl (Nat.le_of_ble_eq_true rfl) (Nat.le_of_ble_eq_true rfl) rfl h

theorem bk_Mo_book_26 {k : Nat} {pa pb : Nat} {ga : Nat → Nat} {I : pm_II} {J : pm_JJ} {Q : Option Value → pm_H → Prop} {x1 : Int32} {x2 : Int32} {x3 : Int32} {s0 : Int32} (h : ((¬ s0 = 0 → Q (some (.int ((((2 : Int32) * x1) * (I 120 18)) * (I 120 19)))) (hp (pm_up (pm_up (pm_up I 120 20 x1) 120 21 x2) 120 22 x3) J (pm_RT pa pb ga))) ∧ (¬ (¬ s0 = 0) → Q (some (.int (-1))) (hp I J (pm_RT pa pb ga))))) : Px (k + 1) 176 m_Mo_book 26 [.ref 120, .int x1, .int x2, .int x3] [.int s0] (hp I J (pm_RT pa pb ga)) Q := by
  refine x_b 29 rfl rfl rfl (fun c => ?_) (fun c => ?_)
  · have h := h.1 c
    refine x_l 32 rfl rfl rfl ?_
    refine x_l 33 rfl rfl rfl ?_
    refine z_pi 36 rfl (Or.inl rfl) rfl (fun z => by cases z) ⟨rfl, rfl, rfl⟩ rfl ?_
    refine x_l 37 rfl rfl rfl ?_
    refine x_l 38 rfl rfl rfl ?_
    refine z_pi 41 rfl (Or.inl rfl) rfl (fun z => by cases z) ⟨rfl, rfl, rfl⟩ rfl ?_
    refine x_l 42 rfl rfl rfl ?_
    refine x_l 43 rfl rfl rfl ?_
    refine z_pi 46 rfl (Or.inl rfl) rfl (fun z => by cases z) ⟨rfl, rfl, rfl⟩ rfl ?_
    refine z_k 47 2 rfl (by decide) rfl ?_
    refine x_l 48 rfl rfl rfl ?_
    refine z_gf 51 (.int x1) rfl ⟨rfl, rfl, rfl⟩ rfl rfl ?_
    refine x_s 52 rfl rfl rfl ?_
    refine x_l 53 rfl rfl rfl ?_
    refine z_gf 56 (.int (I 120 18)) rfl ⟨rfl, rfl, rfl⟩ rfl rfl ?_
    refine x_s 57 rfl rfl rfl ?_
    refine x_l 58 rfl rfl rfl ?_
    refine z_gf 61 (.int (I 120 19)) rfl ⟨rfl, rfl, rfl⟩ rfl rfl ?_
    refine x_s 62 rfl rfl rfl ?_
    exact x_ri rfl (Or.inl rfl) h
  · have h := h.2 c
    refine z_k 30 (-1) rfl (by decide) rfl ?_
    exact x_ri rfl (Or.inl rfl) h

theorem bk_Mo_page_0 {k : Nat} {pa pb : Nat} {ga : Nat → Nat} {I : pm_II} {J : pm_JJ} {Q : Option Value → pm_H → Prop} {x1 : Int32} {x2 : Int32} {x3 : Int32} {x4 : Int32} (h : Px k 176 m_Mo_isPanel 0 [.ref 120, .int x1, .int x2, .int x3, .int x4] [] (hp I J (pm_RT pa pb ga)) (fun r h' => h'.1 = 176 ∧ Px (k + 1) 176 m_Mo_page 9 [.ref 120, .int x1, .int x2, .int x3, .int x4] (r.toList ++ []) h' Q)) : Px (k + 1) 176 m_Mo_page 0 [.ref 120, .int x1, .int x2, .int x3, .int x4] [] (hp I J (pm_RT pa pb ga)) Q := by
  refine x_l 1 rfl rfl rfl ?_
  refine x_l 2 rfl rfl rfl ?_
  refine x_l 3 rfl rfl rfl ?_
  refine x_l 4 rfl rfl rfl ?_
  refine x_l 6 rfl rfl rfl ?_
  exact z_cv (As := [.int x1, .int x2, .int x3, .int x4]) (rest := []) (b := 120) rfl at_Mo_isPanel rfl rfl (Nat.le_of_ble_eq_true rfl) (Nat.le_of_ble_eq_true rfl) ⟨rfl, rfl, rfl⟩ (by decide) rfl h

theorem bk_Mo_page_9 {k : Nat} {pa pb : Nat} {ga : Nat → Nat} {I : pm_II} {J : pm_JJ} {Q : Option Value → pm_H → Prop} {x1 : Int32} {x2 : Int32} {x3 : Int32} {x4 : Int32} {s0 : Int32} (h : ((¬ s0 = 0 → Px k 176 m_Mo_pageOf 0 [.ref 120, .int x1, .int x2, .int x3, .int x4, .null, .null] [] (hp I J (pm_RT pa pb ga)) (fun r h' => h'.1 = 176 ∧ Px (k + 1) 176 m_Mo_page 23 [.ref 120, .int x1, .int x2, .int x3, .int x4] (r.toList ++ []) h' Q)) ∧ (¬ (¬ s0 = 0) → Q (some (.int (-1))) (hp I J (pm_RT pa pb ga))))) : Px (k + 1) 176 m_Mo_page 9 [.ref 120, .int x1, .int x2, .int x3, .int x4] [.int s0] (hp I J (pm_RT pa pb ga)) Q := by
  refine x_b 12 rfl rfl rfl (fun c => ?_) (fun c => ?_)
  · have h := h.1 c
    refine x_l 15 rfl rfl rfl ?_
    refine x_l 16 rfl rfl rfl ?_
    refine x_l 17 rfl rfl rfl ?_
    refine x_l 18 rfl rfl rfl ?_
    refine x_l 20 rfl rfl rfl ?_
    exact z_cv (As := [.int x1, .int x2, .int x3, .int x4]) (rest := []) (b := 120) rfl at_Mo_pageOf rfl rfl (Nat.le_of_ble_eq_true rfl) (Nat.le_of_ble_eq_true rfl) ⟨rfl, rfl, rfl⟩ (by decide) rfl h
  · have h := h.2 c
    refine z_k 13 (-1) rfl (by decide) rfl ?_
    exact x_ri rfl (Or.inl rfl) h

theorem bk_Mo_page_23 {k : Nat} {pa pb : Nat} {ga : Nat → Nat} {I : pm_II} {J : pm_JJ} {Q : Option Value → pm_H → Prop} {x1 : Int32} {x2 : Int32} {x3 : Int32} {x4 : Int32} {s0 : Int32} (h : vp_in (((8 : Int32) * x3) + x4) 64 ∧ (((I 134 (((((8 : Int32) * x3) + x4) : Int32).toNatClampNeg)) = 0 → Q (some (.int (s0 + (0 : Int32)))) (hp I J (pm_RT pa pb ga))) ∧ (¬ ((I 134 (((((8 : Int32) * x3) + x4) : Int32).toNatClampNeg)) = 0) → Q (some (.int (s0 + (1000 : Int32)))) (hp I J (pm_RT pa pb ga))))) : Px (k + 1) 176 m_Mo_page 23 [.ref 120, .int x1, .int x2, .int x3, .int x4] [.int s0] (hp I J (pm_RT pa pb ga)) Q := by
  refine x_l 24 rfl rfl rfl ?_
  refine z_gf 27 (.ref 134) rfl ⟨rfl, rfl, rfl⟩ rfl rfl ?_
  refine z_k 29 8 rfl (by decide) rfl ?_
  refine x_l 30 rfl rfl rfl ?_
  refine x_s 31 rfl rfl rfl ?_
  refine x_l 33 rfl rfl rfl ?_
  refine x_s 34 rfl rfl rfl ?_
  have h1 := h.1
  have h := h.2
  refine z_zl 35 64 rfl ⟨rfl, rfl, rfl⟩ rfl h1 rfl ?_
  refine x_b 38 rfl rfl rfl (fun c => ?_) (fun c => ?_)
  · have h := h.1 c
    refine z_k 45 0 rfl (by decide) rfl ?_
    refine x_s 46 rfl rfl rfl ?_
    exact x_ri rfl (Or.inl rfl) h
  · have h := h.2 c
    refine z_k 41 1000 rfl (by decide) rfl ?_
    refine x_g rfl ?_
    refine x_s 46 rfl rfl rfl ?_
    exact x_ri rfl (Or.inl rfl) h

theorem bk_Mo_isPanel_0 {k : Nat} {pa pb : Nat} {ga : Nat → Nat} {I : pm_II} {J : pm_JJ} {Q : Option Value → pm_H → Prop} {x1 : Int32} {x2 : Int32} {x3 : Int32} {x4 : Int32} (h : Px k 176 m_Mo_is 0 [.int x1, .int 0, .int ((I 120 20) - (1 : Int32))] [] (hp I J (pm_RT pa pb ga)) (fun r h' => h'.1 = 176 ∧ Px (k + 1) 176 m_Mo_isPanel 11 [.ref 120, .int x1, .int x2, .int x3, .int x4] (r.toList ++ []) h' Q)) : Px (k + 1) 176 m_Mo_isPanel 0 [.ref 120, .int x1, .int x2, .int x3, .int x4] [] (hp I J (pm_RT pa pb ga)) Q := by
  refine x_l 1 rfl rfl rfl ?_
  refine z_k 2 0 rfl (by decide) rfl ?_
  refine x_l 3 rfl rfl rfl ?_
  refine z_gf 6 (.int (I 120 20)) rfl ⟨rfl, rfl, rfl⟩ rfl rfl ?_
  refine z_k 7 1 rfl (by decide) rfl ?_
  refine x_s 8 rfl rfl rfl ?_
  exact z_cs (As := [.int x1, .int 0, .int ((I 120 20) - (1 : Int32))]) (rest := []) rfl at_Mo_is rfl rfl (Nat.le_of_ble_eq_true rfl) (Nat.le_of_ble_eq_true rfl) rfl h

theorem bk_Mo_isPanel_11 {k : Nat} {pa pb : Nat} {ga : Nat → Nat} {I : pm_II} {J : pm_JJ} {Q : Option Value → pm_H → Prop} {x1 : Int32} {x2 : Int32} {x3 : Int32} {x4 : Int32} {s0 : Int32} (h : ((s0 = 0 → Q (some (.int 0)) (hp I J (pm_RT pa pb ga))) ∧ (¬ (s0 = 0) → Px k 176 m_Mo_is 0 [.int x2, .int 0, .int 1] [] (hp I J (pm_RT pa pb ga)) (fun r h' => h'.1 = 176 ∧ Px (k + 1) 176 m_Mo_isPanel 20 [.ref 120, .int x1, .int x2, .int x3, .int x4] (r.toList ++ []) h' Q)))) : Px (k + 1) 176 m_Mo_isPanel 11 [.ref 120, .int x1, .int x2, .int x3, .int x4] [.int s0] (hp I J (pm_RT pa pb ga)) Q := by
  refine x_b 14 rfl rfl rfl (fun c => ?_) (fun c => ?_)
  · have h := h.1 c
    refine z_k 57 0 rfl (by decide) rfl ?_
    exact x_ri rfl (Or.inr ⟨rfl, Or.inl rfl⟩) h
  · have h := h.2 c
    refine x_l 15 rfl rfl rfl ?_
    refine z_k 16 0 rfl (by decide) rfl ?_
    refine z_k 17 1 rfl (by decide) rfl ?_
    exact z_cs (As := [.int x2, .int 0, .int 1]) (rest := []) rfl at_Mo_is rfl rfl (Nat.le_of_ble_eq_true rfl) (Nat.le_of_ble_eq_true rfl) rfl h

theorem bk_Mo_isPanel_20 {k : Nat} {pa pb : Nat} {ga : Nat → Nat} {I : pm_II} {J : pm_JJ} {Q : Option Value → pm_H → Prop} {x1 : Int32} {x2 : Int32} {x3 : Int32} {x4 : Int32} {s0 : Int32} (h : ((s0 = 0 → Q (some (.int 0)) (hp I J (pm_RT pa pb ga))) ∧ (¬ (s0 = 0) → Px k 176 m_Mo_is 0 [.int x3, .int 0, .int ((I 120 18) - (1 : Int32))] [] (hp I J (pm_RT pa pb ga)) (fun r h' => h'.1 = 176 ∧ Px (k + 1) 176 m_Mo_isPanel 34 [.ref 120, .int x1, .int x2, .int x3, .int x4] (r.toList ++ []) h' Q)))) : Px (k + 1) 176 m_Mo_isPanel 20 [.ref 120, .int x1, .int x2, .int x3, .int x4] [.int s0] (hp I J (pm_RT pa pb ga)) Q := by
  refine x_b 23 rfl rfl rfl (fun c => ?_) (fun c => ?_)
  · have h := h.1 c
    refine z_k 57 0 rfl (by decide) rfl ?_
    exact x_ri rfl (Or.inr ⟨rfl, Or.inl rfl⟩) h
  · have h := h.2 c
    refine x_l 24 rfl rfl rfl ?_
    refine z_k 25 0 rfl (by decide) rfl ?_
    refine x_l 26 rfl rfl rfl ?_
    refine z_gf 29 (.int (I 120 18)) rfl ⟨rfl, rfl, rfl⟩ rfl rfl ?_
    refine z_k 30 1 rfl (by decide) rfl ?_
    refine x_s 31 rfl rfl rfl ?_
    exact z_cs (As := [.int x3, .int 0, .int ((I 120 18) - (1 : Int32))]) (rest := []) rfl at_Mo_is rfl rfl (Nat.le_of_ble_eq_true rfl) (Nat.le_of_ble_eq_true rfl) rfl h

theorem bk_Mo_isPanel_34 {k : Nat} {pa pb : Nat} {ga : Nat → Nat} {I : pm_II} {J : pm_JJ} {Q : Option Value → pm_H → Prop} {x1 : Int32} {x2 : Int32} {x3 : Int32} {x4 : Int32} {s0 : Int32} (h : ((s0 = 0 → Q (some (.int 0)) (hp I J (pm_RT pa pb ga))) ∧ (¬ (s0 = 0) → Px k 176 m_Mo_is 0 [.int x4, .int 0, .int ((I 120 19) - (1 : Int32))] [] (hp I J (pm_RT pa pb ga)) (fun r h' => h'.1 = 176 ∧ Px (k + 1) 176 m_Mo_isPanel 49 [.ref 120, .int x1, .int x2, .int x3, .int x4] (r.toList ++ []) h' Q)))) : Px (k + 1) 176 m_Mo_isPanel 34 [.ref 120, .int x1, .int x2, .int x3, .int x4] [.int s0] (hp I J (pm_RT pa pb ga)) Q := by
  refine x_b 37 rfl rfl rfl (fun c => ?_) (fun c => ?_)
  · have h := h.1 c
    refine z_k 57 0 rfl (by decide) rfl ?_
    exact x_ri rfl (Or.inr ⟨rfl, Or.inl rfl⟩) h
  · have h := h.2 c
    refine x_l 39 rfl rfl rfl ?_
    refine z_k 40 0 rfl (by decide) rfl ?_
    refine x_l 41 rfl rfl rfl ?_
    refine z_gf 44 (.int (I 120 19)) rfl ⟨rfl, rfl, rfl⟩ rfl rfl ?_
    refine z_k 45 1 rfl (by decide) rfl ?_
    refine x_s 46 rfl rfl rfl ?_
    exact z_cs (As := [.int x4, .int 0, .int ((I 120 19) - (1 : Int32))]) (rest := []) rfl at_Mo_is rfl rfl (Nat.le_of_ble_eq_true rfl) (Nat.le_of_ble_eq_true rfl) rfl h

theorem bk_Mo_isPanel_49 {k : Nat} {pa pb : Nat} {ga : Nat → Nat} {I : pm_II} {J : pm_JJ} {Q : Option Value → pm_H → Prop} {x1 : Int32} {x2 : Int32} {x3 : Int32} {x4 : Int32} {s0 : Int32} (h : ((s0 = 0 → Q (some (.int 0)) (hp I J (pm_RT pa pb ga))) ∧ (¬ (s0 = 0) → Q (some (.int 1)) (hp I J (pm_RT pa pb ga))))) : Px (k + 1) 176 m_Mo_isPanel 49 [.ref 120, .int x1, .int x2, .int x3, .int x4] [.int s0] (hp I J (pm_RT pa pb ga)) Q := by
  refine x_b 52 rfl rfl rfl (fun c => ?_) (fun c => ?_)
  · have h := h.1 c
    refine z_k 57 0 rfl (by decide) rfl ?_
    exact x_ri rfl (Or.inr ⟨rfl, Or.inl rfl⟩) h
  · have h := h.2 c
    refine z_k 53 1 rfl (by decide) rfl ?_
    refine x_g rfl ?_
    exact x_ri rfl (Or.inr ⟨rfl, Or.inr rfl⟩) h

theorem bk_Mo_pageOf_0 {k : Nat} {pa pb : Nat} {ga : Nat → Nat} {I : pm_II} {J : pm_JJ} {Q : Option Value → pm_H → Prop} {x1 : Int32} {x2 : Int32} {x3 : Int32} {x4 : Int32} (h : ((¬ x2 = 1 → Px (k + 1) 176 m_Mo_pageOf 19 [.ref 120, .int x1, .int x2, .int x3, .int x4, .int (((8 : Int32) * x3) + x4), .null] [.int 0] (hp I J (pm_RT pa pb ga)) Q) ∧ (¬ (¬ x2 = 1) → Px (k + 1) 176 m_Mo_pageOf 19 [.ref 120, .int x1, .int x2, .int x3, .int x4, .int (((8 : Int32) * x3) + x4), .null] [.int 1] (hp I J (pm_RT pa pb ga)) Q))) : Px (k + 1) 176 m_Mo_pageOf 0 [.ref 120, .int x1, .int x2, .int x3, .int x4, .null, .null] [] (hp I J (pm_RT pa pb ga)) Q := by
  refine z_k 2 8 rfl (by decide) rfl ?_
  refine x_l 3 rfl rfl rfl ?_
  refine x_s 4 rfl rfl rfl ?_
  refine x_l 6 rfl rfl rfl ?_
  refine x_s 7 rfl rfl rfl ?_
  refine x_t 9 rfl rfl rfl ?_
  refine x_l 10 rfl rfl rfl ?_
  refine z_k 11 1 rfl (by decide) rfl ?_
  refine x_b 14 rfl rfl rfl (fun c => ?_) (fun c => ?_)
  · have h := h.1 c
    refine z_k 19 0 rfl (by decide) rfl ?_
    exact h
  · have h := h.2 c
    refine z_k 15 1 rfl (by decide) rfl ?_
    refine x_g rfl ?_
    exact h

theorem bk_Mo_pageOf_19 {k : Nat} {pa pb : Nat} {ga : Nat → Nat} {I : pm_II} {J : pm_JJ} {Q : Option Value → pm_H → Prop} {x1 : Int32} {x2 : Int32} {x3 : Int32} {x4 : Int32} {x5 : Int32} {s0 : Int32} (h : vp_in x5 64 ∧ ((¬ s0 = (I 133 ((x5 : Int32).toNatClampNeg)) → Px (k + 1) 176 m_Mo_pageOf 34 [.ref 120, .int x1, .int x2, .int x3, .int x4, .int x5, .null] [.int 0] (hp I J (pm_RT pa pb ga)) Q) ∧ (¬ (¬ s0 = (I 133 ((x5 : Int32).toNatClampNeg))) → Px (k + 1) 176 m_Mo_pageOf 34 [.ref 120, .int x1, .int x2, .int x3, .int x4, .int x5, .null] [.int 1] (hp I J (pm_RT pa pb ga)) Q))) : Px (k + 1) 176 m_Mo_pageOf 19 [.ref 120, .int x1, .int x2, .int x3, .int x4, .int x5, .null] [.int s0] (hp I J (pm_RT pa pb ga)) Q := by
  refine x_l 20 rfl rfl rfl ?_
  refine z_gf 23 (.ref 133) rfl ⟨rfl, rfl, rfl⟩ rfl rfl ?_
  refine x_l 25 rfl rfl rfl ?_
  have h1 := h.1
  have h := h.2
  refine z_zl 26 64 rfl ⟨rfl, rfl, rfl⟩ rfl h1 rfl ?_
  refine x_b 29 rfl rfl rfl (fun c => ?_) (fun c => ?_)
  · have h := h.1 c
    refine z_k 34 0 rfl (by decide) rfl ?_
    exact h
  · have h := h.2 c
    refine z_k 30 1 rfl (by decide) rfl ?_
    refine x_g rfl ?_
    exact h

theorem bk_Mo_pageOf_34 {k : Nat} {pa pb : Nat} {ga : Nat → Nat} {I : pm_II} {J : pm_JJ} {Q : Option Value → pm_H → Prop} {x1 : Int32} {x2 : Int32} {x3 : Int32} {x4 : Int32} {x5 : Int32} {s0 : Int32} (h : vp_in x5 64 ∧ Px k 176 m_Mo_place 0 [.ref 120, .int x1, .int (I 132 ((x5 : Int32).toNatClampNeg)), .null, .null] [] (hp I J (pm_RT pa pb ga)) (fun r h' => h'.1 = 176 ∧ Px (k + 1) 176 m_Mo_pageOf 49 [.ref 120, .int x1, .int x2, .int x3, .int x4, .int x5, .int s0] (r.toList ++ [.int 2]) h' Q)) : Px (k + 1) 176 m_Mo_pageOf 34 [.ref 120, .int x1, .int x2, .int x3, .int x4, .int x5, .null] [.int s0] (hp I J (pm_RT pa pb ga)) Q := by
  refine x_t 36 rfl rfl rfl ?_
  refine z_k 37 2 rfl (by decide) rfl ?_
  refine x_l 38 rfl rfl rfl ?_
  refine x_l 39 rfl rfl rfl ?_
  refine x_l 40 rfl rfl rfl ?_
  refine z_gf 43 (.ref 132) rfl ⟨rfl, rfl, rfl⟩ rfl rfl ?_
  refine x_l 45 rfl rfl rfl ?_
  have h1 := h.1
  have h := h.2
  refine z_il 46 64 rfl ⟨rfl, rfl, rfl⟩ rfl h1 rfl ?_
  exact z_cv (As := [.int x1, .int (I 132 ((x5 : Int32).toNatClampNeg))]) (rest := [.int 2]) (b := 120) rfl at_Mo_place rfl rfl (Nat.le_of_ble_eq_true rfl) (Nat.le_of_ble_eq_true rfl) ⟨rfl, rfl, rfl⟩ (by decide) rfl h

theorem bk_Mo_pageOf_49 {k : Nat} {pa pb : Nat} {ga : Nat → Nat} {I : pm_II} {J : pm_JJ} {Q : Option Value → pm_H → Prop} {x1 : Int32} {x2 : Int32} {x3 : Int32} {x4 : Int32} {x5 : Int32} {x6 : Int32} {s0 : Int32} {s1 : Int32} (h : ((x6 = 0 → Q (some (.int ((s0 * s1) + (1 : Int32)))) (hp I J (pm_RT pa pb ga))) ∧ (¬ (x6 = 0) → Q (some (.int ((s0 * s1) + (0 : Int32)))) (hp I J (pm_RT pa pb ga))))) : Px (k + 1) 176 m_Mo_pageOf 49 [.ref 120, .int x1, .int x2, .int x3, .int x4, .int x5, .int x6] [.int s1, .int s0] (hp I J (pm_RT pa pb ga)) Q := by
  refine x_s 50 rfl rfl rfl ?_
  refine x_l 52 rfl rfl rfl ?_
  refine x_b 55 rfl rfl rfl (fun c => ?_) (fun c => ?_)
  · have h := h.1 c
    refine z_k 60 1 rfl (by decide) rfl ?_
    refine x_s 61 rfl rfl rfl ?_
    exact x_ri rfl (Or.inl rfl) h
  · have h := h.2 c
    refine z_k 56 0 rfl (by decide) rfl ?_
    refine x_g rfl ?_
    refine x_s 61 rfl rfl rfl ?_
    exact x_ri rfl (Or.inl rfl) h

theorem bk_Mo_place_0 {k : Nat} {pa pb : Nat} {ga : Nat → Nat} {I : pm_II} {J : pm_JJ} {Q : Option Value → pm_H → Prop} {x1 : Int32} {x2 : Int32} (h : ((¬ (I 120 21) = 0 → (((((I 120 18) * (I 120 19)) / 2) ≤ x2 → Q (some (.int (((((I 120 20) * ((I 120 18) * (I 120 19))) - ((x1 + (1 : Int32)) * (((I 120 18) * (I 120 19)) - (((I 120 18) * (I 120 19)) / 2)))) + x2) - (((I 120 18) * (I 120 19)) / 2)))) (hp I J (pm_RT pa pb ga))) ∧ (¬ ((((I 120 18) * (I 120 19)) / 2) ≤ x2) → Q (some (.int ((x1 * (((I 120 18) * (I 120 19)) / 2)) + x2))) (hp I J (pm_RT pa pb ga))))) ∧ (¬ (¬ (I 120 21) = 0) → Q (some (.int ((x1 * ((I 120 18) * (I 120 19))) + x2))) (hp I J (pm_RT pa pb ga))))) : Px k 176 m_Mo_place 0 [.ref 120, .int x1, .int x2, .null, .null] [] (hp I J (pm_RT pa pb ga)) Q := by
  refine x_l 1 rfl rfl rfl ?_
  refine z_gf 4 (.int (I 120 18)) rfl ⟨rfl, rfl, rfl⟩ rfl rfl ?_
  refine x_l 5 rfl rfl rfl ?_
  refine z_gf 8 (.int (I 120 19)) rfl ⟨rfl, rfl, rfl⟩ rfl rfl ?_
  refine x_s 9 rfl rfl rfl ?_
  refine x_t 10 rfl rfl rfl ?_
  refine x_l 11 rfl rfl rfl ?_
  refine z_gf 14 (.int (I 120 21)) rfl ⟨rfl, rfl, rfl⟩ rfl rfl ?_
  refine x_b 17 rfl rfl rfl (fun c => ?_) (fun c => ?_)
  · have h := h.1 c
    refine x_l 24 rfl rfl rfl ?_
    refine z_k 25 2 rfl (by decide) rfl ?_
    refine x_dv 26 rfl (by decide) rfl ?_
    refine x_t 28 rfl rfl rfl ?_
    refine x_l 29 rfl rfl rfl ?_
    refine x_l 31 rfl rfl rfl ?_
    refine x_b 34 rfl rfl rfl (fun c => ?_) (fun c => ?_)
    · have h := h.1 c
      refine x_l 44 rfl rfl rfl ?_
      refine z_gf 47 (.int (I 120 20)) rfl ⟨rfl, rfl, rfl⟩ rfl rfl ?_
      refine x_l 48 rfl rfl rfl ?_
      refine x_s 49 rfl rfl rfl ?_
      refine x_l 50 rfl rfl rfl ?_
      refine z_k 51 1 rfl (by decide) rfl ?_
      refine x_s 52 rfl rfl rfl ?_
      refine x_l 53 rfl rfl rfl ?_
      refine x_l 55 rfl rfl rfl ?_
      refine x_s 56 rfl rfl rfl ?_
      refine x_s 57 rfl rfl rfl ?_
      refine x_s 58 rfl rfl rfl ?_
      refine x_l 59 rfl rfl rfl ?_
      refine x_s 60 rfl rfl rfl ?_
      refine x_l 62 rfl rfl rfl ?_
      refine x_s 63 rfl rfl rfl ?_
      exact x_ri rfl (Or.inl rfl) h
    · have h := h.2 c
      refine x_l 35 rfl rfl rfl ?_
      refine x_l 37 rfl rfl rfl ?_
      refine x_s 38 rfl rfl rfl ?_
      refine x_l 39 rfl rfl rfl ?_
      refine x_s 40 rfl rfl rfl ?_
      refine x_g rfl ?_
      exact x_ri rfl (Or.inl rfl) h
  · have h := h.2 c
    refine x_l 18 rfl rfl rfl ?_
    refine x_l 19 rfl rfl rfl ?_
    refine x_s 20 rfl rfl rfl ?_
    refine x_l 21 rfl rfl rfl ?_
    refine x_s 22 rfl rfl rfl ?_
    exact x_ri rfl (Or.inl rfl) h

theorem bk_Mo_where_0 {k : Nat} {pa pb : Nat} {ga : Nat → Nat} {I : pm_II} {J : pm_JJ} {Q : Option Value → pm_H → Prop} {x1 : Int32} {x2 : Int32} (h : Px k 176 m_Mo_is 0 [.int x1, .int 0, .int (((2 : Int32) * (((I 120 20) * (I 120 18)) * (I 120 19))) - (1 : Int32))] [] (hp I J (pm_RT pa pb ga)) (fun r h' => h'.1 = 176 ∧ Px (k + 1) 176 m_Mo_where 25 [.ref 120, .int x1, .int x2, .int (((I 120 20) * (I 120 18)) * (I 120 19)), .null, .null, .null, .null, .null, .null] (r.toList ++ []) h' Q)) : Px (k + 1) 176 m_Mo_where 0 [.ref 120, .int x1, .int x2, .null, .null, .null, .null, .null, .null, .null] [] (hp I J (pm_RT pa pb ga)) Q := by
  refine x_l 1 rfl rfl rfl ?_
  refine z_gf 4 (.int (I 120 20)) rfl ⟨rfl, rfl, rfl⟩ rfl rfl ?_
  refine x_l 5 rfl rfl rfl ?_
  refine z_gf 8 (.int (I 120 18)) rfl ⟨rfl, rfl, rfl⟩ rfl rfl ?_
  refine x_s 9 rfl rfl rfl ?_
  refine x_l 10 rfl rfl rfl ?_
  refine z_gf 13 (.int (I 120 19)) rfl ⟨rfl, rfl, rfl⟩ rfl rfl ?_
  refine x_s 14 rfl rfl rfl ?_
  refine x_t 15 rfl rfl rfl ?_
  refine x_l 16 rfl rfl rfl ?_
  refine z_k 17 0 rfl (by decide) rfl ?_
  refine z_k 18 2 rfl (by decide) rfl ?_
  refine x_l 19 rfl rfl rfl ?_
  refine x_s 20 rfl rfl rfl ?_
  refine z_k 21 1 rfl (by decide) rfl ?_
  refine x_s 22 rfl rfl rfl ?_
  exact z_cs (As := [.int x1, .int 0, .int (((2 : Int32) * (((I 120 20) * (I 120 18)) * (I 120 19))) - (1 : Int32))]) (rest := []) rfl at_Mo_is rfl rfl (Nat.le_of_ble_eq_true rfl) (Nat.le_of_ble_eq_true rfl) rfl h

theorem bk_Mo_where_25 {k : Nat} {pa pb : Nat} {ga : Nat → Nat} {I : pm_II} {J : pm_JJ} {Q : Option Value → pm_H → Prop} {x1 : Int32} {x2 : Int32} {x3 : Int32} {s0 : Int32} (h : ((¬ s0 = 0 → Px (k + 1) 176 m_Mo_where 33 [.ref 120, .int x1, .int x2, .int x3, .int 0, .null, .null, .null, .null, .null] [] (hp I J (pm_RT pa pb ga)) Q) ∧ (¬ (¬ s0 = 0) → Q (some (.int (-1))) (hp I J (pm_RT pa pb ga))))) : Px (k + 1) 176 m_Mo_where 25 [.ref 120, .int x1, .int x2, .int x3, .null, .null, .null, .null, .null, .null] [.int s0] (hp I J (pm_RT pa pb ga)) Q := by
  refine x_b 28 rfl rfl rfl (fun c => ?_) (fun c => ?_)
  · have h := h.1 c
    refine z_k 31 0 rfl (by decide) rfl ?_
    refine x_t 33 rfl rfl rfl ?_
    exact h
  · have h := h.2 c
    refine z_k 29 (-1) rfl (by decide) rfl ?_
    exact x_ri rfl (Or.inl rfl) h

theorem bk_Mo_where_33 {k : Nat} {pa pb : Nat} {ga : Nat → Nat} {I : pm_II} {J : pm_JJ} {Q : Option Value → pm_H → Prop} {x1 : Int32} {x2 : Int32} {x3 : Int32} {x4 : Int32} (h : ((((2 : Int32) * x3) ≤ x4 → Q (some (.int (-1))) (hp I J (pm_RT pa pb ga))) ∧ (¬ (((2 : Int32) * x3) ≤ x4) → ¬ (((2 : Int32) * (I 120 18)) * (I 120 19)) = 0 ∧ ¬ ((I 120 18) * (I 120 19)) = 0 ∧ ¬ (I 120 19) = 0 ∧ ¬ (I 120 18) = 0 ∧ ¬ (I 120 19) = 0 ∧ Px k 176 m_Mo_pageOf 0 [.ref 120, .int (x4 / (((2 : Int32) * (I 120 18)) * (I 120 19))), .int ((x4 / ((I 120 18) * (I 120 19))) - (x4 / ((I 120 18) * (I 120 19))) / 2 * 2), .int ((x4 / (I 120 19)) - (x4 / (I 120 19)) / (I 120 18) * (I 120 18)), .int (x4 - x4 / (I 120 19) * (I 120 19)), .null, .null] [] (hp I J (pm_RT pa pb ga)) (fun r h' => h'.1 = 176 ∧ Px (k + 1) 176 m_Mo_where 108 [.ref 120, .int x1, .int x2, .int x3, .int x4, .int (x4 / (((2 : Int32) * (I 120 18)) * (I 120 19))), .int ((x4 / ((I 120 18) * (I 120 19))) - (x4 / ((I 120 18) * (I 120 19))) / 2 * 2), .int ((x4 / (I 120 19)) - (x4 / (I 120 19)) / (I 120 18) * (I 120 18)), .int (x4 - x4 / (I 120 19) * (I 120 19)), .null] (r.toList ++ []) h' Q)))) : Px (k + 1) 176 m_Mo_where 33 [.ref 120, .int x1, .int x2, .int x3, .int x4, .null, .null, .null, .null, .null] [] (hp I J (pm_RT pa pb ga)) Q := by
  refine x_l 35 rfl rfl rfl ?_
  refine z_k 36 2 rfl (by decide) rfl ?_
  refine x_l 37 rfl rfl rfl ?_
  refine x_s 38 rfl rfl rfl ?_
  refine x_b 41 rfl rfl rfl (fun c => ?_) (fun c => ?_)
  · have h := h.1 c
    refine z_k 194 (-1) rfl (by decide) rfl ?_
    exact x_ri rfl (Or.inl rfl) h
  · have h := h.2 c
    refine x_l 43 rfl rfl rfl ?_
    refine z_k 44 2 rfl (by decide) rfl ?_
    refine x_l 45 rfl rfl rfl ?_
    refine z_gf 48 (.int (I 120 18)) rfl ⟨rfl, rfl, rfl⟩ rfl rfl ?_
    refine x_s 49 rfl rfl rfl ?_
    refine x_l 50 rfl rfl rfl ?_
    refine z_gf 53 (.int (I 120 19)) rfl ⟨rfl, rfl, rfl⟩ rfl rfl ?_
    refine x_s 54 rfl rfl rfl ?_
    have h0 := h.1
    have h := h.2
    refine x_dv 55 rfl h0 rfl ?_
    refine x_t 57 rfl rfl rfl ?_
    refine x_l 59 rfl rfl rfl ?_
    refine x_l 60 rfl rfl rfl ?_
    refine z_gf 63 (.int (I 120 18)) rfl ⟨rfl, rfl, rfl⟩ rfl rfl ?_
    refine x_l 64 rfl rfl rfl ?_
    refine z_gf 67 (.int (I 120 19)) rfl ⟨rfl, rfl, rfl⟩ rfl rfl ?_
    refine x_s 68 rfl rfl rfl ?_
    have h0 := h.1
    have h := h.2
    refine x_dv 69 rfl h0 rfl ?_
    refine z_k 70 2 rfl (by decide) rfl ?_
    refine x_rm 71 rfl (by decide) rfl ?_
    refine x_t 73 rfl rfl rfl ?_
    refine x_l 75 rfl rfl rfl ?_
    refine x_l 76 rfl rfl rfl ?_
    refine z_gf 79 (.int (I 120 19)) rfl ⟨rfl, rfl, rfl⟩ rfl rfl ?_
    have h0 := h.1
    have h := h.2
    refine x_dv 80 rfl h0 rfl ?_
    refine x_l 81 rfl rfl rfl ?_
    refine z_gf 84 (.int (I 120 18)) rfl ⟨rfl, rfl, rfl⟩ rfl rfl ?_
    have h0 := h.1
    have h := h.2
    refine x_rm 85 rfl h0 rfl ?_
    refine x_t 87 rfl rfl rfl ?_
    refine x_l 89 rfl rfl rfl ?_
    refine x_l 90 rfl rfl rfl ?_
    refine z_gf 93 (.int (I 120 19)) rfl ⟨rfl, rfl, rfl⟩ rfl rfl ?_
    have h0 := h.1
    have h := h.2
    refine x_rm 94 rfl h0 rfl ?_
    refine x_t 96 rfl rfl rfl ?_
    refine x_l 97 rfl rfl rfl ?_
    refine x_l 99 rfl rfl rfl ?_
    refine x_l 101 rfl rfl rfl ?_
    refine x_l 103 rfl rfl rfl ?_
    refine x_l 105 rfl rfl rfl ?_
    exact z_cv (As := [.int (x4 / (((2 : Int32) * (I 120 18)) * (I 120 19))), .int ((x4 / ((I 120 18) * (I 120 19))) - (x4 / ((I 120 18) * (I 120 19))) / 2 * 2), .int ((x4 / (I 120 19)) - (x4 / (I 120 19)) / (I 120 18) * (I 120 18)), .int (x4 - x4 / (I 120 19) * (I 120 19))]) (rest := []) (b := 120) rfl at_Mo_pageOf rfl rfl (Nat.le_of_ble_eq_true rfl) (Nat.le_of_ble_eq_true rfl) ⟨rfl, rfl, rfl⟩ (by decide) rfl h

theorem bk_Mo_where_108 {k : Nat} {pa pb : Nat} {ga : Nat → Nat} {I : pm_II} {J : pm_JJ} {Q : Option Value → pm_H → Prop} {x1 : Int32} {x2 : Int32} {x3 : Int32} {x4 : Int32} {x5 : Int32} {x6 : Int32} {x7 : Int32} {x8 : Int32} {s0 : Int32} (h : ((s0 = x1 → ((x2 = nI 0 → Q (some (.int x5)) (hp I J (pm_RT pa pb ga))) ∧ (x2 = nI 1 → Q (some (.int x6)) (hp I J (pm_RT pa pb ga))) ∧ (x2 = nI 2 → Q (some (.int x7)) (hp I J (pm_RT pa pb ga))) ∧ (x2 = nI 3 → Q (some (.int x8)) (hp I J (pm_RT pa pb ga))) ∧ (x2 = nI 4 → Px k 176 m_Jm_min_II 0 [.int (x1 / 2), .int ((x3 - (1 : Int32)) - (x1 / 2))] [] (hp I J (pm_RT pa pb ga)) (fun r h' => h'.1 = 176 ∧ Px (k + 1) 176 m_Mo_where 183 [.ref 120, .int x1, .int x2, .int x3, .int x4, .int x5, .int x6, .int x7, .int x8, .int (x1 / 2)] (r.toList ++ [.int (I 120 22)]) h' Q)) ∧ ((x2 < 0 ∨ nI 4 < x2) → Q (some (.int (-1))) (hp I J (pm_RT pa pb ga))))) ∧ (¬ (s0 = x1) → Px (k + 1) 176 m_Mo_where 33 [.ref 120, .int x1, .int x2, .int x3, .int (x4 + Int32.ofInt 1), .int x5, .int x6, .int x7, .int x8, .null] [] (hp I J (pm_RT pa pb ga)) Q))) : Px (k + 1) 176 m_Mo_where 108 [.ref 120, .int x1, .int x2, .int x3, .int x4, .int x5, .int x6, .int x7, .int x8, .null] [.int s0] (hp I J (pm_RT pa pb ga)) Q := by
  refine x_l 109 rfl rfl rfl ?_
  refine x_b 112 rfl rfl rfl (fun c => ?_) (fun c => ?_)
  · have h := h.1 c
    refine x_l 116 rfl rfl rfl ?_
    refine z_k 117 2 rfl (by decide) rfl ?_
    refine x_dv 118 rfl (by decide) rfl ?_
    refine x_t 120 rfl rfl rfl ?_
    refine x_l 121 rfl rfl rfl ?_
    refine z_sw 4 (dt := 185) rfl rfl (by decide) (fun i hi e => ?_) (fun c => ?_)
    · match i, hi with
      | 0, _ =>
        refine ⟨_, 156, rfl, rfl, ?_⟩
        have h := h.1 e
        refine x_l 158 rfl rfl rfl ?_
        exact x_ri rfl (Or.inl rfl) h
      | 1, _ =>
        refine ⟨_, 159, rfl, rfl, ?_⟩
        have h := h.2.1 e
        refine x_l 161 rfl rfl rfl ?_
        exact x_ri rfl (Or.inl rfl) h
      | 2, _ =>
        refine ⟨_, 162, rfl, rfl, ?_⟩
        have h := h.2.2.1 e
        refine x_l 164 rfl rfl rfl ?_
        exact x_ri rfl (Or.inl rfl) h
      | 3, _ =>
        refine ⟨_, 165, rfl, rfl, ?_⟩
        have h := h.2.2.2.1 e
        refine x_l 167 rfl rfl rfl ?_
        exact x_ri rfl (Or.inl rfl) h
      | 4, _ =>
        refine ⟨_, 168, rfl, rfl, ?_⟩
        have h := h.2.2.2.2.1 e
        refine x_l 169 rfl rfl rfl ?_
        refine z_gf 172 (.int (I 120 22)) rfl ⟨rfl, rfl, rfl⟩ rfl rfl ?_
        refine x_l 174 rfl rfl rfl ?_
        refine x_l 175 rfl rfl rfl ?_
        refine z_k 176 1 rfl (by decide) rfl ?_
        refine x_s 177 rfl rfl rfl ?_
        refine x_l 179 rfl rfl rfl ?_
        refine x_s 180 rfl rfl rfl ?_
        exact z_cs (As := [.int (x1 / 2), .int ((x3 - (1 : Int32)) - (x1 / 2))]) (rest := [.int (I 120 22)]) rfl at_Jm_min_II rfl rfl (Nat.le_of_ble_eq_true rfl) (Nat.le_of_ble_eq_true rfl) rfl h
      | n + 5, hi => exact absurd hi (by omega)
    · have h := h.2.2.2.2.2 c
      refine z_k 186 (-1) rfl (by decide) rfl ?_
      exact x_ri rfl (Or.inl rfl) h
  · have h := h.2 c
    refine x_g rfl ?_
    refine x_t 190 rfl rfl rfl ?_
    refine x_g rfl ?_
    exact h

theorem bk_Mo_where_183 {k : Nat} {pa pb : Nat} {ga : Nat → Nat} {I : pm_II} {J : pm_JJ} {Q : Option Value → pm_H → Prop} {x1 : Int32} {x2 : Int32} {x3 : Int32} {x4 : Int32} {x5 : Int32} {x6 : Int32} {x7 : Int32} {x8 : Int32} {x9 : Int32} {s0 : Int32} {s1 : Int32} (h : Q (some (.int (s0 * s1))) (hp I J (pm_RT pa pb ga))) : Px (k + 1) 176 m_Mo_where 183 [.ref 120, .int x1, .int x2, .int x3, .int x4, .int x5, .int x6, .int x7, .int x8, .int x9] [.int s1, .int s0] (hp I J (pm_RT pa pb ga)) Q := by
  refine x_s 184 rfl rfl rfl ?_
  exact x_ri rfl (Or.inl rfl) h

theorem bk_Mo_draw_0 {k : Nat} {pa pb : Nat} {ga : Nat → Nat} {I : pm_II} {J : pm_JJ} {Q : Option Value → pm_H → Prop} {x1 : Int32} (h : Px k 176 m_Mo_is 0 [.int x1, .int 0, .int 31] [] (hp I J (pm_RT pa pb ga)) (fun r h' => h'.1 = 176 ∧ Px (k + 1) 176 m_Mo_draw 7 [.ref 120, .int x1, .null, .null, .null, .null, .null, .null, .null, .null] (r.toList ++ []) h' Q)) : Px (k + 1) 176 m_Mo_draw 0 [.ref 120, .int x1, .null, .null, .null, .null, .null, .null, .null, .null] [] (hp I J (pm_RT pa pb ga)) Q := by
  refine x_l 1 rfl rfl rfl ?_
  refine z_k 2 0 rfl (by decide) rfl ?_
  refine z_k 4 31 rfl (by decide) rfl ?_
  exact z_cs (As := [.int x1, .int 0, .int 31]) (rest := []) rfl at_Mo_is rfl rfl (Nat.le_of_ble_eq_true rfl) (Nat.le_of_ble_eq_true rfl) rfl h

theorem bk_Mo_draw_7 {k : Nat} {pa pb : Nat} {ga : Nat → Nat} {I : pm_II} {J : pm_JJ} {Q : Option Value → pm_H → Prop} {x1 : Int32} {s0 : Int32} (h : ((¬ s0 = 0 → Px k 176 m_Mo_take 0 [.ref 120, .null] [] (hp I J (pm_RT pa pb ga)) (fun r h' => h'.1 = 176 ∧ Px (k + 1) 176 m_Mo_draw 16 [.ref 120, .int x1, .null, .null, .null, .null, .null, .null, .null, .null] (r.toList ++ []) h' Q)) ∧ (¬ (¬ s0 = 0) → Q (some (.int (-1))) (hp I J (pm_RT pa pb ga))))) : Px (k + 1) 176 m_Mo_draw 7 [.ref 120, .int x1, .null, .null, .null, .null, .null, .null, .null, .null] [.int s0] (hp I J (pm_RT pa pb ga)) Q := by
  refine x_b 10 rfl rfl rfl (fun c => ?_) (fun c => ?_)
  · have h := h.1 c
    refine x_l 13 rfl rfl rfl ?_
    exact z_cv (As := []) (rest := []) (b := 120) rfl at_Mo_take rfl rfl (Nat.le_of_ble_eq_true rfl) (Nat.le_of_ble_eq_true rfl) ⟨rfl, rfl, rfl⟩ (by decide) rfl h
  · have h := h.2 c
    refine z_k 11 (-1) rfl (by decide) rfl ?_
    exact x_ri rfl (Or.inl rfl) h

theorem bk_Mo_draw_16 {k : Nat} {pa pb : Nat} {ga : Nat → Nat} {I : pm_II} {J : pm_JJ} {Q : Option Value → pm_H → Prop} {x1 : Int32} (h : Px (k + 1) 176 m_Mo_draw 18 [.ref 120, .int x1, .int 0, .null, .null, .null, .null, .null, .null, .null] [] (hp I J (pm_RT pa pb ga)) Q) : Px (k + 1) 176 m_Mo_draw 16 [.ref 120, .int x1, .null, .null, .null, .null, .null, .null, .null, .null] [] (hp I J (pm_RT pa pb ga)) Q := by
  refine z_k 17 0 rfl (by decide) rfl ?_
  refine x_t 18 rfl rfl rfl ?_
  exact h

theorem bk_Mo_draw_18 {k : Nat} {pa pb : Nat} {ga : Nat → Nat} {I : pm_II} {J : pm_JJ} {Q : Option Value → pm_H → Prop} {x1 : Int32} {x2 : Int32} (h : ((64 ≤ x2 → Px (k + 1) 176 m_Mo_draw 39 [.ref 120, .int x1, .int 0, .null, .null, .null, .null, .null, .null, .null] [] (hp I J (pm_RT pa pb ga)) Q) ∧ (¬ (64 ≤ x2) → vp_in x2 64 ∧ Px (k + 1) 176 m_Mo_draw 18 [.ref 120, .int x1, .int (x2 + Int32.ofInt 1), .null, .null, .null, .null, .null, .null, .null] [] (hp (pm_up I 137 ((x2 : Int32).toNatClampNeg) 0) J (pm_RT pa pb ga)) Q))) : Px (k + 1) 176 m_Mo_draw 18 [.ref 120, .int x1, .int x2, .null, .null, .null, .null, .null, .null, .null] [] (hp I J (pm_RT pa pb ga)) Q := by
  refine x_l 19 rfl rfl rfl ?_
  refine z_k 21 64 rfl (by decide) rfl ?_
  refine x_b 24 rfl rfl rfl (fun c => ?_) (fun c => ?_)
  · have h := h.1 c
    refine z_k 38 0 rfl (by decide) rfl ?_
    refine x_t 39 rfl rfl rfl ?_
    exact h
  · have h := h.2 c
    refine x_l 25 rfl rfl rfl ?_
    refine z_gf 28 (.ref 137) rfl ⟨rfl, rfl, rfl⟩ rfl rfl ?_
    refine x_l 29 rfl rfl rfl ?_
    refine z_k 30 0 rfl (by decide) rfl ?_
    have h1 := h.1
    have h := h.2
    refine z_is 31 64 rfl ⟨rfl, rfl, rfl⟩ rfl h1 rfl ?_
    refine x_t 34 rfl rfl rfl ?_
    refine x_g rfl ?_
    exact h

theorem bk_Mo_draw_39 {k : Nat} {pa pb : Nat} {ga : Nat → Nat} {I : pm_II} {J : pm_JJ} {Q : Option Value → pm_H → Prop} {x1 : Int32} {x2 : Int32} (h : Px k 176 m_Mo_bad 0 [.ref 120] [] (hp I J (pm_RT pa pb ga)) (fun r h' => h'.1 = 176 ∧ Px (k + 1) 176 m_Mo_draw 43 [.ref 120, .int x1, .int x2, .null, .null, .null, .null, .null, .null, .null] (r.toList ++ []) h' Q)) : Px (k + 1) 176 m_Mo_draw 39 [.ref 120, .int x1, .int x2, .null, .null, .null, .null, .null, .null, .null] [] (hp I J (pm_RT pa pb ga)) Q := by
  refine x_l 40 rfl rfl rfl ?_
  exact z_cv (As := []) (rest := []) (b := 120) rfl at_Mo_bad rfl rfl (Nat.le_of_ble_eq_true rfl) (Nat.le_of_ble_eq_true rfl) ⟨rfl, rfl, rfl⟩ (by decide) rfl h

theorem bk_Mo_draw_43 {k : Nat} {pa pb : Nat} {ga : Nat → Nat} {I : pm_II} {J : pm_JJ} {Q : Option Value → pm_H → Prop} {x1 : Int32} {x2 : Int32} {s0 : Int32} (h : ((¬ s0 = 0 → Px (k + 1) 176 m_Mo_draw 310 [.ref 120, .int x1, .int x2, .null, .null, .null, .null, .null, .null, .null] [] (hp I J (pm_RT pa pb ga)) Q) ∧ (¬ (¬ s0 = 0) → (((I 120 4) < (I 120 3) → Px (k + 1) 176 m_Mo_draw 61 [.ref 120, .int x1, .int x2, .null, .null, .null, .null, .null, .null, .null] [] (hp I J (pm_RT pa pb ga)) Q) ∧ (¬ ((I 120 4) < (I 120 3)) → ((¬ x2 = 0 → Px (k + 1) 176 m_Mo_draw 310 [.ref 120, .int x1, .int x2, .null, .null, .null, .null, .null, .null, .null] [] (hp I J (pm_RT pa pb ga)) Q) ∧ (¬ (¬ x2 = 0) → Px (k + 1) 176 m_Mo_draw 61 [.ref 120, .int x1, .int x2, .null, .null, .null, .null, .null, .null, .null] [] (hp I J (pm_RT pa pb ga)) Q))))))) : Px (k + 1) 176 m_Mo_draw 43 [.ref 120, .int x1, .int x2, .null, .null, .null, .null, .null, .null, .null] [.int s0] (hp I J (pm_RT pa pb ga)) Q := by
  refine x_b 46 rfl rfl rfl (fun c => ?_) (fun c => ?_)
  · have h := h.1 c
    exact h
  · have h := h.2 c
    refine x_l 47 rfl rfl rfl ?_
    refine z_gf 50 (.int (I 120 4)) rfl ⟨rfl, rfl, rfl⟩ rfl rfl ?_
    refine x_l 51 rfl rfl rfl ?_
    refine z_gf 54 (.int (I 120 3)) rfl ⟨rfl, rfl, rfl⟩ rfl rfl ?_
    refine x_b 57 rfl rfl rfl (fun c => ?_) (fun c => ?_)
    · have h := h.1 c
      exact h
    · have h := h.2 c
      refine x_l 58 rfl rfl rfl ?_
      refine x_b 61 rfl rfl rfl (fun c => ?_) (fun c => ?_)
      · have h := h.1 c
        exact h
      · have h := h.2 c
        exact h

theorem bk_Mo_draw_61 {k : Nat} {pa pb : Nat} {ga : Nat → Nat} {I : pm_II} {J : pm_JJ} {Q : Option Value → pm_H → Prop} {x1 : Int32} {x2 : Int32} (h : ((40 ≤ x2 → Px (k + 1) 176 m_Mo_draw 82 [.ref 120, .int x1, .int x2, .null, .null, .null, .null, .null, .null, .null] [.int 0] (hp I J (pm_RT pa pb ga)) Q) ∧ (¬ (40 ≤ x2) → Px k 176 m_Mo_isWord 0 [.ref 120, .ref 7, .null, .null, .null] [] (hp I J (pm_RT pa pb ga)) (fun r h' => h'.1 = 176 ∧ Px (k + 1) 176 m_Mo_draw 74 [.ref 120, .int x1, .int x2, .null, .null, .null, .null, .null, .null, .null] (r.toList ++ []) h' Q)))) : Px (k + 1) 176 m_Mo_draw 61 [.ref 120, .int x1, .int x2, .null, .null, .null, .null, .null, .null, .null] [] (hp I J (pm_RT pa pb ga)) Q := by
  refine x_l 62 rfl rfl rfl ?_
  refine z_k 64 40 rfl (by decide) rfl ?_
  refine x_b 67 rfl rfl rfl (fun c => ?_) (fun c => ?_)
  · have h := h.1 c
    refine z_k 82 0 rfl (by decide) rfl ?_
    exact h
  · have h := h.2 c
    refine x_l 68 rfl rfl rfl ?_
    refine x_ls 71 rfl (Or.inr rfl) rfl ?_
    exact z_cv (As := [.ref 7]) (rest := []) (b := 120) rfl at_Mo_isWord rfl rfl (Nat.le_of_ble_eq_true rfl) (Nat.le_of_ble_eq_true rfl) ⟨rfl, rfl, rfl⟩ (by decide) rfl h

theorem bk_Mo_draw_74 {k : Nat} {pa pb : Nat} {ga : Nat → Nat} {I : pm_II} {J : pm_JJ} {Q : Option Value → pm_H → Prop} {x1 : Int32} {x2 : Int32} {s0 : Int32} (h : ((s0 = 0 → Px (k + 1) 176 m_Mo_draw 82 [.ref 120, .int x1, .int x2, .null, .null, .null, .null, .null, .null, .null] [.int 0] (hp I J (pm_RT pa pb ga)) Q) ∧ (¬ (s0 = 0) → Px (k + 1) 176 m_Mo_draw 82 [.ref 120, .int x1, .int x2, .null, .null, .null, .null, .null, .null, .null] [.int 1] (hp I J (pm_RT pa pb ga)) Q))) : Px (k + 1) 176 m_Mo_draw 74 [.ref 120, .int x1, .int x2, .null, .null, .null, .null, .null, .null, .null] [.int s0] (hp I J (pm_RT pa pb ga)) Q := by
  refine x_b 77 rfl rfl rfl (fun c => ?_) (fun c => ?_)
  · have h := h.1 c
    refine z_k 82 0 rfl (by decide) rfl ?_
    exact h
  · have h := h.2 c
    refine z_k 78 1 rfl (by decide) rfl ?_
    refine x_g rfl ?_
    exact h

theorem bk_Mo_draw_82 {k : Nat} {pa pb : Nat} {ga : Nat → Nat} {I : pm_II} {J : pm_JJ} {Q : Option Value → pm_H → Prop} {x1 : Int32} {x2 : Int32} {s0 : Int32} (h : ((x2 = 40 → Px (k + 1) 176 m_Mo_draw 103 [.ref 120, .int x1, .int x2, .int s0, .null, .null, .null, .null, .null, .null] [] (hp I J (pm_RT pa pb ga)) Q) ∧ (¬ (x2 = 40) → ((¬ s0 = 0 → Px (k + 1) 176 m_Mo_draw 111 [.ref 120, .int x1, .int x2, .int s0, .null, .null, .null, .null, .null, .null] [] (hp I J (pm_RT pa pb ga)) Q) ∧ (¬ (¬ s0 = 0) → Px k 176 m_Mo_isWord 0 [.ref 120, .ref 8, .null, .null, .null] [] (hp I J (pm_RT pa pb ga)) (fun r h' => h'.1 = 176 ∧ Px (k + 1) 176 m_Mo_draw 100 [.ref 120, .int x1, .int x2, .int s0, .null, .null, .null, .null, .null, .null] (r.toList ++ []) h' Q)))))) : Px (k + 1) 176 m_Mo_draw 82 [.ref 120, .int x1, .int x2, .null, .null, .null, .null, .null, .null, .null] [.int s0] (hp I J (pm_RT pa pb ga)) Q := by
  refine x_t 83 rfl rfl rfl ?_
  refine x_l 84 rfl rfl rfl ?_
  refine z_k 86 40 rfl (by decide) rfl ?_
  refine x_b 89 rfl rfl rfl (fun c => ?_) (fun c => ?_)
  · have h := h.1 c
    exact h
  · have h := h.2 c
    refine x_l 90 rfl rfl rfl ?_
    refine x_b 93 rfl rfl rfl (fun c => ?_) (fun c => ?_)
    · have h := h.1 c
      exact h
    · have h := h.2 c
      refine x_l 94 rfl rfl rfl ?_
      refine x_ls 97 rfl (Or.inr rfl) rfl ?_
      exact z_cv (As := [.ref 8]) (rest := []) (b := 120) rfl at_Mo_isWord rfl rfl (Nat.le_of_ble_eq_true rfl) (Nat.le_of_ble_eq_true rfl) ⟨rfl, rfl, rfl⟩ (by decide) rfl h

theorem bk_Mo_draw_100 {k : Nat} {pa pb : Nat} {ga : Nat → Nat} {I : pm_II} {J : pm_JJ} {Q : Option Value → pm_H → Prop} {x1 : Int32} {x2 : Int32} {x3 : Int32} {s0 : Int32} (h : ((¬ s0 = 0 → Px (k + 1) 176 m_Mo_draw 111 [.ref 120, .int x1, .int x2, .int x3, .null, .null, .null, .null, .null, .null] [] (hp I J (pm_RT pa pb ga)) Q) ∧ (¬ (¬ s0 = 0) → Px (k + 1) 176 m_Mo_draw 103 [.ref 120, .int x1, .int x2, .int x3, .null, .null, .null, .null, .null, .null] [] (hp I J (pm_RT pa pb ga)) Q))) : Px (k + 1) 176 m_Mo_draw 100 [.ref 120, .int x1, .int x2, .int x3, .null, .null, .null, .null, .null, .null] [.int s0] (hp I J (pm_RT pa pb ga)) Q := by
  refine x_b 103 rfl rfl rfl (fun c => ?_) (fun c => ?_)
  · have h := h.1 c
    exact h
  · have h := h.2 c
    exact h

theorem bk_Mo_draw_103 {k : Nat} {pa pb : Nat} {ga : Nat → Nat} {I : pm_II} {J : pm_JJ} {Q : Option Value → pm_H → Prop} {x1 : Int32} {x2 : Int32} {x3 : Int32} (h : Px k 176 m_Mo_fail 0 [.ref 120, .int (I 120 4)] [] (hp I J (pm_RT pa pb ga)) (fun r h' => h'.1 = 176 ∧ Px (k + 1) 176 m_Mo_draw 111 [.ref 120, .int x1, .int x2, .int x3, .null, .null, .null, .null, .null, .null] (r.toList ++ []) h' Q)) : Px (k + 1) 176 m_Mo_draw 103 [.ref 120, .int x1, .int x2, .int x3, .null, .null, .null, .null, .null, .null] [] (hp I J (pm_RT pa pb ga)) Q := by
  refine x_l 104 rfl rfl rfl ?_
  refine x_l 105 rfl rfl rfl ?_
  refine z_gf 108 (.int (I 120 4)) rfl ⟨rfl, rfl, rfl⟩ rfl rfl ?_
  exact z_cv (As := [.int (I 120 4)]) (rest := []) (b := 120) rfl at_Mo_fail rfl rfl (Nat.le_of_ble_eq_true rfl) (Nat.le_of_ble_eq_true rfl) ⟨rfl, rfl, rfl⟩ (by decide) rfl h

theorem bk_Mo_draw_111 {k : Nat} {pa pb : Nat} {ga : Nat → Nat} {I : pm_II} {J : pm_JJ} {Q : Option Value → pm_H → Prop} {x1 : Int32} {x2 : Int32} {x3 : Int32} (h : Px k 176 m_Mo_behind 0 [.ref 120, .int 0, .int 7] [] (hp I J (pm_RT pa pb ga)) (fun r h' => h'.1 = 176 ∧ Px (k + 1) 176 m_Mo_draw 118 [.ref 120, .int x1, .int x2, .int x3, .null, .null, .null, .null, .null, .null] (r.toList ++ []) h' Q)) : Px (k + 1) 176 m_Mo_draw 111 [.ref 120, .int x1, .int x2, .int x3, .null, .null, .null, .null, .null, .null] [] (hp I J (pm_RT pa pb ga)) Q := by
  refine x_l 112 rfl rfl rfl ?_
  refine z_k 113 0 rfl (by decide) rfl ?_
  refine z_k 115 7 rfl (by decide) rfl ?_
  exact z_cv (As := [.int 0, .int 7]) (rest := []) (b := 120) rfl at_Mo_behind rfl rfl (Nat.le_of_ble_eq_true rfl) (Nat.le_of_ble_eq_true rfl) ⟨rfl, rfl, rfl⟩ (by decide) rfl h

theorem bk_Mo_draw_118 {k : Nat} {pa pb : Nat} {ga : Nat → Nat} {I : pm_II} {J : pm_JJ} {Q : Option Value → pm_H → Prop} {x1 : Int32} {x2 : Int32} {x3 : Int32} {s0 : Int32} (h : Px k 176 m_Mo_behind 0 [.ref 120, .int 0, .int 7] [] (hp I J (pm_RT pa pb ga)) (fun r h' => h'.1 = 176 ∧ Px (k + 1) 176 m_Mo_draw 127 [.ref 120, .int x1, .int x2, .int x3, .int s0, .null, .null, .null, .null, .null] (r.toList ++ []) h' Q)) : Px (k + 1) 176 m_Mo_draw 118 [.ref 120, .int x1, .int x2, .int x3, .null, .null, .null, .null, .null, .null] [.int s0] (hp I J (pm_RT pa pb ga)) Q := by
  refine x_t 120 rfl rfl rfl ?_
  refine x_l 121 rfl rfl rfl ?_
  refine z_k 122 0 rfl (by decide) rfl ?_
  refine z_k 124 7 rfl (by decide) rfl ?_
  exact z_cv (As := [.int 0, .int 7]) (rest := []) (b := 120) rfl at_Mo_behind rfl rfl (Nat.le_of_ble_eq_true rfl) (Nat.le_of_ble_eq_true rfl) ⟨rfl, rfl, rfl⟩ (by decide) rfl h

theorem bk_Mo_draw_127 {k : Nat} {pa pb : Nat} {ga : Nat → Nat} {I : pm_II} {J : pm_JJ} {Q : Option Value → pm_H → Prop} {x1 : Int32} {x2 : Int32} {x3 : Int32} {x4 : Int32} {s0 : Int32} (h : ((x3 = 0 → Px k 176 m_Mo_behind 0 [.ref 120, .int 0, .int 7] [] (hp I J (pm_RT pa pb ga)) (fun r h' => h'.1 = 176 ∧ Px (k + 1) 176 m_Mo_draw 150 [.ref 120, .int x1, .int x2, .int x3, .int x4, .int s0, .null, .null, .null, .null] (r.toList ++ []) h' Q)) ∧ (¬ (x3 = 0) → Px k 176 m_Mo_behind 0 [.ref 120, .int 1, .int 8] [] (hp I J (pm_RT pa pb ga)) (fun r h' => h'.1 = 176 ∧ Px (k + 1) 176 m_Mo_draw 140 [.ref 120, .int x1, .int x2, .int x3, .int x4, .int s0, .null, .null, .null, .null] (r.toList ++ []) h' Q)))) : Px (k + 1) 176 m_Mo_draw 127 [.ref 120, .int x1, .int x2, .int x3, .int x4, .null, .null, .null, .null, .null] [.int s0] (hp I J (pm_RT pa pb ga)) Q := by
  refine x_t 129 rfl rfl rfl ?_
  refine x_l 130 rfl rfl rfl ?_
  refine x_b 133 rfl rfl rfl (fun c => ?_) (fun c => ?_)
  · have h := h.1 c
    refine x_l 144 rfl rfl rfl ?_
    refine z_k 145 0 rfl (by decide) rfl ?_
    refine z_k 147 7 rfl (by decide) rfl ?_
    exact z_cv (As := [.int 0, .int 7]) (rest := []) (b := 120) rfl at_Mo_behind rfl rfl (Nat.le_of_ble_eq_true rfl) (Nat.le_of_ble_eq_true rfl) ⟨rfl, rfl, rfl⟩ (by decide) rfl h
  · have h := h.2 c
    refine x_l 134 rfl rfl rfl ?_
    refine z_k 135 1 rfl (by decide) rfl ?_
    refine z_k 137 8 rfl (by decide) rfl ?_
    exact z_cv (As := [.int 1, .int 8]) (rest := []) (b := 120) rfl at_Mo_behind rfl rfl (Nat.le_of_ble_eq_true rfl) (Nat.le_of_ble_eq_true rfl) ⟨rfl, rfl, rfl⟩ (by decide) rfl h

theorem bk_Mo_draw_140 {k : Nat} {pa pb : Nat} {ga : Nat → Nat} {I : pm_II} {J : pm_JJ} {Q : Option Value → pm_H → Prop} {x1 : Int32} {x2 : Int32} {x3 : Int32} {x4 : Int32} {x5 : Int32} {s0 : Int32} (h : Px (k + 1) 176 m_Mo_draw 150 [.ref 120, .int x1, .int x2, .int x3, .int x4, .int x5, .null, .null, .null, .null] [.int s0] (hp I J (pm_RT pa pb ga)) Q) : Px (k + 1) 176 m_Mo_draw 140 [.ref 120, .int x1, .int x2, .int x3, .int x4, .int x5, .null, .null, .null, .null] [.int s0] (hp I J (pm_RT pa pb ga)) Q := by
  refine x_g rfl ?_
  exact h

theorem bk_Mo_draw_150 {k : Nat} {pa pb : Nat} {ga : Nat → Nat} {I : pm_II} {J : pm_JJ} {Q : Option Value → pm_H → Prop} {x1 : Int32} {x2 : Int32} {x3 : Int32} {x4 : Int32} {x5 : Int32} {s0 : Int32} (h : Px k 176 m_Mo_need 0 [.ref 120, .int 32] [] (hp I J (pm_RT pa pb ga)) (fun r h' => h'.1 = 176 ∧ Px (k + 1) 176 m_Mo_draw 158 [.ref 120, .int x1, .int x2, .int x3, .int x4, .int x5, .int s0, .null, .null, .null] (r.toList ++ []) h' Q)) : Px (k + 1) 176 m_Mo_draw 150 [.ref 120, .int x1, .int x2, .int x3, .int x4, .int x5, .null, .null, .null, .null] [.int s0] (hp I J (pm_RT pa pb ga)) Q := by
  refine x_t 152 rfl rfl rfl ?_
  refine x_l 153 rfl rfl rfl ?_
  refine z_k 155 32 rfl (by decide) rfl ?_
  exact z_cv (As := [.int 32]) (rest := []) (b := 120) rfl at_Mo_need rfl rfl (Nat.le_of_ble_eq_true rfl) (Nat.le_of_ble_eq_true rfl) ⟨rfl, rfl, rfl⟩ (by decide) rfl h

theorem bk_Mo_draw_158 {k : Nat} {pa pb : Nat} {ga : Nat → Nat} {I : pm_II} {J : pm_JJ} {Q : Option Value → pm_H → Prop} {x1 : Int32} {x2 : Int32} {x3 : Int32} {x4 : Int32} {x5 : Int32} {x6 : Int32} (h : ((x3 = 0 → Px k 176 m_Mo_told 0 [.ref 120, .int 0, .int 7, .null, .null] [] (hp I J (pm_RT pa pb ga)) (fun r h' => h'.1 = 176 ∧ Px (k + 1) 176 m_Mo_draw 185 [.ref 120, .int x1, .int x2, .int x3, .int x4, .int x5, .int x6, .int (I 120 4), .null, .null] (r.toList ++ []) h' Q)) ∧ (¬ (x3 = 0) → Px k 176 m_Mo_told 0 [.ref 120, .int 1, .int 8, .null, .null] [] (hp I J (pm_RT pa pb ga)) (fun r h' => h'.1 = 176 ∧ Px (k + 1) 176 m_Mo_draw 175 [.ref 120, .int x1, .int x2, .int x3, .int x4, .int x5, .int x6, .int (I 120 4), .null, .null] (r.toList ++ []) h' Q)))) : Px (k + 1) 176 m_Mo_draw 158 [.ref 120, .int x1, .int x2, .int x3, .int x4, .int x5, .int x6, .null, .null, .null] [] (hp I J (pm_RT pa pb ga)) Q := by
  refine x_l 159 rfl rfl rfl ?_
  refine z_gf 162 (.int (I 120 4)) rfl ⟨rfl, rfl, rfl⟩ rfl rfl ?_
  refine x_t 164 rfl rfl rfl ?_
  refine x_l 165 rfl rfl rfl ?_
  refine x_b 168 rfl rfl rfl (fun c => ?_) (fun c => ?_)
  · have h := h.1 c
    refine x_l 179 rfl rfl rfl ?_
    refine z_k 180 0 rfl (by decide) rfl ?_
    refine z_k 182 7 rfl (by decide) rfl ?_
    exact z_cv (As := [.int 0, .int 7]) (rest := []) (b := 120) rfl at_Mo_told rfl rfl (Nat.le_of_ble_eq_true rfl) (Nat.le_of_ble_eq_true rfl) ⟨rfl, rfl, rfl⟩ (by decide) rfl h
  · have h := h.2 c
    refine x_l 169 rfl rfl rfl ?_
    refine z_k 170 1 rfl (by decide) rfl ?_
    refine z_k 172 8 rfl (by decide) rfl ?_
    exact z_cv (As := [.int 1, .int 8]) (rest := []) (b := 120) rfl at_Mo_told rfl rfl (Nat.le_of_ble_eq_true rfl) (Nat.le_of_ble_eq_true rfl) ⟨rfl, rfl, rfl⟩ (by decide) rfl h

theorem bk_Mo_draw_175 {k : Nat} {pa pb : Nat} {ga : Nat → Nat} {I : pm_II} {J : pm_JJ} {Q : Option Value → pm_H → Prop} {x1 : Int32} {x2 : Int32} {x3 : Int32} {x4 : Int32} {x5 : Int32} {x6 : Int32} {x7 : Int32} {s0 : Int32} (h : Px (k + 1) 176 m_Mo_draw 185 [.ref 120, .int x1, .int x2, .int x3, .int x4, .int x5, .int x6, .int x7, .null, .null] [.int s0] (hp I J (pm_RT pa pb ga)) Q) : Px (k + 1) 176 m_Mo_draw 175 [.ref 120, .int x1, .int x2, .int x3, .int x4, .int x5, .int x6, .int x7, .null, .null] [.int s0] (hp I J (pm_RT pa pb ga)) Q := by
  refine x_g rfl ?_
  exact h

theorem bk_Mo_draw_185 {k : Nat} {pa pb : Nat} {ga : Nat → Nat} {I : pm_II} {J : pm_JJ} {Q : Option Value → pm_H → Prop} {x1 : Int32} {x2 : Int32} {x3 : Int32} {x4 : Int32} {x5 : Int32} {x6 : Int32} {x7 : Int32} {s0 : Int32} (h : Px k 176 m_Mo_bad 0 [.ref 120] [] (hp I J (pm_RT pa pb ga)) (fun r h' => h'.1 = 176 ∧ Px (k + 1) 176 m_Mo_draw 191 [.ref 120, .int x1, .int x2, .int x3, .int x4, .int x5, .int x6, .int x7, .int s0, .null] (r.toList ++ []) h' Q)) : Px (k + 1) 176 m_Mo_draw 185 [.ref 120, .int x1, .int x2, .int x3, .int x4, .int x5, .int x6, .int x7, .null, .null] [.int s0] (hp I J (pm_RT pa pb ga)) Q := by
  refine x_t 187 rfl rfl rfl ?_
  refine x_l 188 rfl rfl rfl ?_
  exact z_cv (As := []) (rest := []) (b := 120) rfl at_Mo_bad rfl rfl (Nat.le_of_ble_eq_true rfl) (Nat.le_of_ble_eq_true rfl) ⟨rfl, rfl, rfl⟩ (by decide) rfl h

theorem bk_Mo_draw_191 {k : Nat} {pa pb : Nat} {ga : Nat → Nat} {I : pm_II} {J : pm_JJ} {Q : Option Value → pm_H → Prop} {x1 : Int32} {x2 : Int32} {x3 : Int32} {x4 : Int32} {x5 : Int32} {x6 : Int32} {x7 : Int32} {x8 : Int32} {s0 : Int32} (h : ((¬ s0 = 0 → Px (k + 1) 176 m_Mo_draw 218 [.ref 120, .int x1, .int x2, .int x3, .int x4, .int x5, .int x6, .int x7, .int x8, .null] [] (hp I J (pm_RT pa pb ga)) Q) ∧ (¬ (¬ s0 = 0) → ((¬ x3 = 0 → Px (k + 1) 176 m_Mo_draw 218 [.ref 120, .int x1, .int x2, .int x3, .int x4, .int x5, .int x6, .int x7, .int x8, .null] [] (hp I J (pm_RT pa pb ga)) Q) ∧ (¬ (¬ x3 = 0) → ((x4 = x6 → Px (k + 1) 176 m_Mo_draw 218 [.ref 120, .int x1, .int x2, .int x3, .int x4, .int x5, .int x6, .int x7, .int x8, .null] [] (hp I J (pm_RT pa pb ga)) Q) ∧ (¬ (x4 = x6) → ((x5 = x8 → Px (k + 1) 176 m_Mo_draw 218 [.ref 120, .int x1, .int x2, .int x3, .int x4, .int x5, .int x6, .int x7, .int x8, .null] [] (hp I J (pm_RT pa pb ga)) Q) ∧ (¬ (x5 = x8) → Px k 176 m_Mo_fail 0 [.ref 120, .int x7] [] (hp I J (pm_RT pa pb ga)) (fun r h' => h'.1 = 176 ∧ Px (k + 1) 176 m_Mo_draw 218 [.ref 120, .int x1, .int x2, .int x3, .int x4, .int x5, .int x6, .int x7, .int x8, .null] (r.toList ++ []) h' Q)))))))))) : Px (k + 1) 176 m_Mo_draw 191 [.ref 120, .int x1, .int x2, .int x3, .int x4, .int x5, .int x6, .int x7, .int x8, .null] [.int s0] (hp I J (pm_RT pa pb ga)) Q := by
  refine x_b 194 rfl rfl rfl (fun c => ?_) (fun c => ?_)
  · have h := h.1 c
    exact h
  · have h := h.2 c
    refine x_l 195 rfl rfl rfl ?_
    refine x_b 198 rfl rfl rfl (fun c => ?_) (fun c => ?_)
    · have h := h.1 c
      exact h
    · have h := h.2 c
      refine x_l 200 rfl rfl rfl ?_
      refine x_l 202 rfl rfl rfl ?_
      refine x_b 205 rfl rfl rfl (fun c => ?_) (fun c => ?_)
      · have h := h.1 c
        exact h
      · have h := h.2 c
        refine x_l 207 rfl rfl rfl ?_
        refine x_l 209 rfl rfl rfl ?_
        refine x_b 212 rfl rfl rfl (fun c => ?_) (fun c => ?_)
        · have h := h.1 c
          exact h
        · have h := h.2 c
          refine x_l 213 rfl rfl rfl ?_
          refine x_l 215 rfl rfl rfl ?_
          exact z_cv (As := [.int x7]) (rest := []) (b := 120) rfl at_Mo_fail rfl rfl (Nat.le_of_ble_eq_true rfl) (Nat.le_of_ble_eq_true rfl) ⟨rfl, rfl, rfl⟩ (by decide) rfl h

theorem bk_Mo_draw_218 {k : Nat} {pa pb : Nat} {ga : Nat → Nat} {I : pm_II} {J : pm_JJ} {Q : Option Value → pm_H → Prop} {x1 : Int32} {x2 : Int32} {x3 : Int32} {x4 : Int32} {x5 : Int32} {x6 : Int32} {x7 : Int32} {x8 : Int32} (h : Px k 176 m_Mo_behind 0 [.ref 120, .int 0, .int 16] [] (hp I J (pm_RT pa pb ga)) (fun r h' => h'.1 = 176 ∧ Px (k + 1) 176 m_Mo_draw 225 [.ref 120, .int x1, .int x2, .int x3, .int x4, .int x5, .int x6, .int x7, .int x8, .null] (r.toList ++ []) h' Q)) : Px (k + 1) 176 m_Mo_draw 218 [.ref 120, .int x1, .int x2, .int x3, .int x4, .int x5, .int x6, .int x7, .int x8, .null] [] (hp I J (pm_RT pa pb ga)) Q := by
  refine x_l 219 rfl rfl rfl ?_
  refine z_k 220 0 rfl (by decide) rfl ?_
  refine z_k 222 16 rfl (by decide) rfl ?_
  exact z_cv (As := [.int 0, .int 16]) (rest := []) (b := 120) rfl at_Mo_behind rfl rfl (Nat.le_of_ble_eq_true rfl) (Nat.le_of_ble_eq_true rfl) ⟨rfl, rfl, rfl⟩ (by decide) rfl h

theorem bk_Mo_draw_225 {k : Nat} {pa pb : Nat} {ga : Nat → Nat} {I : pm_II} {J : pm_JJ} {Q : Option Value → pm_H → Prop} {x1 : Int32} {x2 : Int32} {x3 : Int32} {x4 : Int32} {x5 : Int32} {x6 : Int32} {x7 : Int32} {x8 : Int32} {s0 : Int32} (h : Px k 176 m_Mo_need 0 [.ref 120, .int 10] [] (hp I J (pm_RT pa pb ga)) (fun r h' => h'.1 = 176 ∧ Px (k + 1) 176 m_Mo_draw 233 [.ref 120, .int x1, .int x2, .int x3, .int x4, .int x5, .int x6, .int x7, .int x8, .int s0] (r.toList ++ []) h' Q)) : Px (k + 1) 176 m_Mo_draw 225 [.ref 120, .int x1, .int x2, .int x3, .int x4, .int x5, .int x6, .int x7, .int x8, .null] [.int s0] (hp I J (pm_RT pa pb ga)) Q := by
  refine x_t 227 rfl rfl rfl ?_
  refine x_l 228 rfl rfl rfl ?_
  refine z_k 230 10 rfl (by decide) rfl ?_
  exact z_cv (As := [.int 10]) (rest := []) (b := 120) rfl at_Mo_need rfl rfl (Nat.le_of_ble_eq_true rfl) (Nat.le_of_ble_eq_true rfl) ⟨rfl, rfl, rfl⟩ (by decide) rfl h

theorem bk_Mo_draw_233 {k : Nat} {pa pb : Nat} {ga : Nat → Nat} {I : pm_II} {J : pm_JJ} {Q : Option Value → pm_H → Prop} {x1 : Int32} {x2 : Int32} {x3 : Int32} {x4 : Int32} {x5 : Int32} {x6 : Int32} {x7 : Int32} {x8 : Int32} {x9 : Int32} (h : Px k 176 m_Mo_bad 0 [.ref 120] [] (hp I J (pm_RT pa pb ga)) (fun r h' => h'.1 = 176 ∧ Px (k + 1) 176 m_Mo_draw 237 [.ref 120, .int x1, .int x2, .int x3, .int x4, .int x5, .int x6, .int x7, .int x8, .int x9] (r.toList ++ []) h' Q)) : Px (k + 1) 176 m_Mo_draw 233 [.ref 120, .int x1, .int x2, .int x3, .int x4, .int x5, .int x6, .int x7, .int x8, .int x9] [] (hp I J (pm_RT pa pb ga)) Q := by
  refine x_l 234 rfl rfl rfl ?_
  exact z_cv (As := []) (rest := []) (b := 120) rfl at_Mo_bad rfl rfl (Nat.le_of_ble_eq_true rfl) (Nat.le_of_ble_eq_true rfl) ⟨rfl, rfl, rfl⟩ (by decide) rfl h

theorem bk_Mo_draw_237 {k : Nat} {pa pb : Nat} {ga : Nat → Nat} {I : pm_II} {J : pm_JJ} {Q : Option Value → pm_H → Prop} {x1 : Int32} {x2 : Int32} {x3 : Int32} {x4 : Int32} {x5 : Int32} {x6 : Int32} {x7 : Int32} {x8 : Int32} {x9 : Int32} {s0 : Int32} (h : ((s0 = 0 → ((x3 = 0 → Px k 176 m_Jm_min_II 0 [.int x4, .int x6] [] (hp I J (pm_RT pa pb ga)) (fun r h' => h'.1 = 176 ∧ Px (k + 1) 176 m_Mo_draw 272 [.ref 120, .int x1, .int x2, .int x3, .int x4, .int x5, .int x6, .int x7, .int x8, .int x9] (r.toList ++ [.ref 120]) h' Q)) ∧ (¬ (x3 = 0) → Px k 176 m_Mo_fill 0 [.ref 120, .int x4, .int x5, .int x6, .int x8, .int x9, .null, .null] [] (hp I J (pm_RT pa pb ga)) (fun r h' => h'.1 = 176 ∧ Px (k + 1) 176 m_Mo_draw 261 [.ref 120, .int x1, .int x2, .int x3, .int x4, .int x5, .int x6, .int x7, .int x8, .int x9] (r.toList ++ []) h' Q)))) ∧ (¬ (s0 = 0) → Px (k + 1) 176 m_Mo_draw 39 [.ref 120, .int x1, .int x2, .int x3, .int x4, .int x5, .int x6, .int x7, .int x8, .int x9] [] (hp I J (pm_RT pa pb ga)) Q))) : Px (k + 1) 176 m_Mo_draw 237 [.ref 120, .int x1, .int x2, .int x3, .int x4, .int x5, .int x6, .int x7, .int x8, .int x9] [.int s0] (hp I J (pm_RT pa pb ga)) Q := by
  refine x_b 240 rfl rfl rfl (fun c => ?_) (fun c => ?_)
  · have h := h.1 c
    refine x_l 244 rfl rfl rfl ?_
    refine x_b 247 rfl rfl rfl (fun c => ?_) (fun c => ?_)
    · have h := h.1 c
      refine x_l 265 rfl rfl rfl ?_
      refine x_l 267 rfl rfl rfl ?_
      refine x_l 269 rfl rfl rfl ?_
      exact z_cs (As := [.int x4, .int x6]) (rest := [.ref 120]) rfl at_Jm_min_II rfl rfl (Nat.le_of_ble_eq_true rfl) (Nat.le_of_ble_eq_true rfl) rfl h
    · have h := h.2 c
      refine x_l 248 rfl rfl rfl ?_
      refine x_l 250 rfl rfl rfl ?_
      refine x_l 252 rfl rfl rfl ?_
      refine x_l 254 rfl rfl rfl ?_
      refine x_l 256 rfl rfl rfl ?_
      refine x_l 258 rfl rfl rfl ?_
      exact z_cv (As := [.int x4, .int x5, .int x6, .int x8, .int x9]) (rest := []) (b := 120) rfl at_Mo_fill rfl rfl (Nat.le_of_ble_eq_true rfl) (Nat.le_of_ble_eq_true rfl) ⟨rfl, rfl, rfl⟩ (by decide) rfl h
  · have h := h.2 c
    refine x_g rfl ?_
    exact h

theorem bk_Mo_draw_261 {k : Nat} {pa pb : Nat} {ga : Nat → Nat} {I : pm_II} {J : pm_JJ} {Q : Option Value → pm_H → Prop} {x1 : Int32} {x2 : Int32} {x3 : Int32} {x4 : Int32} {x5 : Int32} {x6 : Int32} {x7 : Int32} {x8 : Int32} {x9 : Int32} (h : Px (k + 1) 176 m_Mo_draw 304 [.ref 120, .int x1, .int x2, .int x3, .int x4, .int x5, .int x6, .int x7, .int x8, .int x9] [] (hp I J (pm_RT pa pb ga)) Q) : Px (k + 1) 176 m_Mo_draw 261 [.ref 120, .int x1, .int x2, .int x3, .int x4, .int x5, .int x6, .int x7, .int x8, .int x9] [] (hp I J (pm_RT pa pb ga)) Q := by
  refine x_g rfl ?_
  exact h

theorem bk_Mo_draw_272 {k : Nat} {pa pb : Nat} {ga : Nat → Nat} {I : pm_II} {J : pm_JJ} {Q : Option Value → pm_H → Prop} {x1 : Int32} {x2 : Int32} {x3 : Int32} {x4 : Int32} {x5 : Int32} {x6 : Int32} {x7 : Int32} {x8 : Int32} {x9 : Int32} {s1 : Int32} (h : Px k 176 m_Jm_min_II 0 [.int x5, .int x8] [] (hp I J (pm_RT pa pb ga)) (fun r h' => h'.1 = 176 ∧ Px (k + 1) 176 m_Mo_draw 279 [.ref 120, .int x1, .int x2, .int x3, .int x4, .int x5, .int x6, .int x7, .int x8, .int x9] (r.toList ++ [.int s1, .ref 120]) h' Q)) : Px (k + 1) 176 m_Mo_draw 272 [.ref 120, .int x1, .int x2, .int x3, .int x4, .int x5, .int x6, .int x7, .int x8, .int x9] [.int s1, .ref 120] (hp I J (pm_RT pa pb ga)) Q := by
  refine x_l 274 rfl rfl rfl ?_
  refine x_l 276 rfl rfl rfl ?_
  exact z_cs (As := [.int x5, .int x8]) (rest := [.int s1, .ref 120]) rfl at_Jm_min_II rfl rfl (Nat.le_of_ble_eq_true rfl) (Nat.le_of_ble_eq_true rfl) rfl h

theorem bk_Mo_draw_279 {k : Nat} {pa pb : Nat} {ga : Nat → Nat} {I : pm_II} {J : pm_JJ} {Q : Option Value → pm_H → Prop} {x1 : Int32} {x2 : Int32} {x3 : Int32} {x4 : Int32} {x5 : Int32} {x6 : Int32} {x7 : Int32} {x8 : Int32} {x9 : Int32} {s1 : Int32} {s2 : Int32} (h : Px k 176 m_Jm_abs_I 0 [.int (x4 - x6)] [] (hp I J (pm_RT pa pb ga)) (fun r h' => h'.1 = 176 ∧ Px (k + 1) 176 m_Mo_draw 287 [.ref 120, .int x1, .int x2, .int x3, .int x4, .int x5, .int x6, .int x7, .int x8, .int x9] (r.toList ++ [.int s2, .int s1, .ref 120]) h' Q)) : Px (k + 1) 176 m_Mo_draw 279 [.ref 120, .int x1, .int x2, .int x3, .int x4, .int x5, .int x6, .int x7, .int x8, .int x9] [.int s2, .int s1, .ref 120] (hp I J (pm_RT pa pb ga)) Q := by
  refine x_l 281 rfl rfl rfl ?_
  refine x_l 283 rfl rfl rfl ?_
  refine x_s 284 rfl rfl rfl ?_
  exact z_cs (As := [.int (x4 - x6)]) (rest := [.int s2, .int s1, .ref 120]) rfl at_Jm_abs_I rfl rfl (Nat.le_of_ble_eq_true rfl) (Nat.le_of_ble_eq_true rfl) rfl h

theorem bk_Mo_draw_287 {k : Nat} {pa pb : Nat} {ga : Nat → Nat} {I : pm_II} {J : pm_JJ} {Q : Option Value → pm_H → Prop} {x1 : Int32} {x2 : Int32} {x3 : Int32} {x4 : Int32} {x5 : Int32} {x6 : Int32} {x7 : Int32} {x8 : Int32} {x9 : Int32} {s1 : Int32} {s2 : Int32} {s3 : Int32} (h : Px k 176 m_Jm_abs_I 0 [.int (x5 - x8)] [] (hp I J (pm_RT pa pb ga)) (fun r h' => h'.1 = 176 ∧ Px (k + 1) 176 m_Mo_draw 297 [.ref 120, .int x1, .int x2, .int x3, .int x4, .int x5, .int x6, .int x7, .int x8, .int x9] (r.toList ++ [.int (s3 + (1 : Int32)), .int s2, .int s1, .ref 120]) h' Q)) : Px (k + 1) 176 m_Mo_draw 287 [.ref 120, .int x1, .int x2, .int x3, .int x4, .int x5, .int x6, .int x7, .int x8, .int x9] [.int s3, .int s2, .int s1, .ref 120] (hp I J (pm_RT pa pb ga)) Q := by
  refine z_k 288 1 rfl (by decide) rfl ?_
  refine x_s 289 rfl rfl rfl ?_
  refine x_l 291 rfl rfl rfl ?_
  refine x_l 293 rfl rfl rfl ?_
  refine x_s 294 rfl rfl rfl ?_
  exact z_cs (As := [.int (x5 - x8)]) (rest := [.int (s3 + (1 : Int32)), .int s2, .int s1, .ref 120]) rfl at_Jm_abs_I rfl rfl (Nat.le_of_ble_eq_true rfl) (Nat.le_of_ble_eq_true rfl) rfl h

theorem bk_Mo_draw_297 {k : Nat} {pa pb : Nat} {ga : Nat → Nat} {I : pm_II} {J : pm_JJ} {Q : Option Value → pm_H → Prop} {x1 : Int32} {x2 : Int32} {x3 : Int32} {x4 : Int32} {x5 : Int32} {x6 : Int32} {x7 : Int32} {x8 : Int32} {x9 : Int32} {s1 : Int32} {s2 : Int32} {s3 : Int32} {s4 : Int32} (h : Px k 176 m_Mo_fill 0 [.ref 120, .int s1, .int s2, .int s3, .int (s4 + (1 : Int32)), .int x9, .null, .null] [] (hp I J (pm_RT pa pb ga)) (fun r h' => h'.1 = 176 ∧ Px (k + 1) 176 m_Mo_draw 304 [.ref 120, .int x1, .int x2, .int x3, .int x4, .int x5, .int x6, .int x7, .int x8, .int x9] (r.toList ++ []) h' Q)) : Px (k + 1) 176 m_Mo_draw 297 [.ref 120, .int x1, .int x2, .int x3, .int x4, .int x5, .int x6, .int x7, .int x8, .int x9] [.int s4, .int s3, .int s2, .int s1, .ref 120] (hp I J (pm_RT pa pb ga)) Q := by
  refine z_k 298 1 rfl (by decide) rfl ?_
  refine x_s 299 rfl rfl rfl ?_
  refine x_l 301 rfl rfl rfl ?_
  exact z_cv (As := [.int s1, .int s2, .int s3, .int (s4 + (1 : Int32)), .int x9]) (rest := []) (b := 120) rfl at_Mo_fill rfl rfl (Nat.le_of_ble_eq_true rfl) (Nat.le_of_ble_eq_true rfl) ⟨rfl, rfl, rfl⟩ (by decide) rfl h

theorem bk_Mo_draw_304 {k : Nat} {pa pb : Nat} {ga : Nat → Nat} {I : pm_II} {J : pm_JJ} {Q : Option Value → pm_H → Prop} {x1 : Int32} {x2 : Int32} {x3 : Int32} {x4 : Int32} {x5 : Int32} {x6 : Int32} {x7 : Int32} {x8 : Int32} {x9 : Int32} (h : Px (k + 1) 176 m_Mo_draw 39 [.ref 120, .int x1, .int (x2 + Int32.ofInt 1), .int x3, .int x4, .int x5, .int x6, .int x7, .int x8, .int x9] [] (hp I J (pm_RT pa pb ga)) Q) : Px (k + 1) 176 m_Mo_draw 304 [.ref 120, .int x1, .int x2, .int x3, .int x4, .int x5, .int x6, .int x7, .int x8, .int x9] [] (hp I J (pm_RT pa pb ga)) Q := by
  refine x_t 307 rfl rfl rfl ?_
  refine x_g rfl ?_
  exact h

theorem bk_Mo_draw_310 {k : Nat} {pa pb : Nat} {ga : Nat → Nat} {I : pm_II} {J : pm_JJ} {Q : Option Value → pm_H → Prop} {x1 : Int32} {x2 : Int32} (h : Px k 176 m_Mo_bad 0 [.ref 120] [] (hp I J (pm_RT pa pb ga)) (fun r h' => h'.1 = 176 ∧ Px (k + 1) 176 m_Mo_draw 314 [.ref 120, .int x1, .int x2, .null, .null, .null, .null, .null, .null, .null] (r.toList ++ []) h' Q)) : Px (k + 1) 176 m_Mo_draw 310 [.ref 120, .int x1, .int x2, .null, .null, .null, .null, .null, .null, .null] [] (hp I J (pm_RT pa pb ga)) Q := by
  refine x_l 311 rfl rfl rfl ?_
  exact z_cv (As := []) (rest := []) (b := 120) rfl at_Mo_bad rfl rfl (Nat.le_of_ble_eq_true rfl) (Nat.le_of_ble_eq_true rfl) ⟨rfl, rfl, rfl⟩ (by decide) rfl h

theorem bk_Mo_draw_314 {k : Nat} {pa pb : Nat} {ga : Nat → Nat} {I : pm_II} {J : pm_JJ} {Q : Option Value → pm_H → Prop} {x1 : Int32} {x2 : Int32} {s0 : Int32} (h : ((s0 = 0 → Px (k + 1) 176 m_Mo_draw 331 [.ref 120, .int x1, .int x2, .int 0, .int 0, .null, .null, .null, .null, .null] [] (hp I J (pm_RT pa pb ga)) Q) ∧ (¬ (s0 = 0) → Q (some (.int (((-1000) : Int32) - (I 120 5)))) (hp I J (pm_RT pa pb ga))))) : Px (k + 1) 176 m_Mo_draw 314 [.ref 120, .int x1, .int x2, .null, .null, .null, .null, .null, .null, .null] [.int s0] (hp I J (pm_RT pa pb ga)) Q := by
  refine x_b 317 rfl rfl rfl (fun c => ?_) (fun c => ?_)
  · have h := h.1 c
    refine z_k 327 0 rfl (by decide) rfl ?_
    refine x_t 328 rfl rfl rfl ?_
    refine z_k 329 0 rfl (by decide) rfl ?_
    refine x_t 331 rfl rfl rfl ?_
    exact h
  · have h := h.2 c
    refine z_k 320 (-1000) rfl (by decide) rfl ?_
    refine x_l 321 rfl rfl rfl ?_
    refine z_gf 324 (.int (I 120 5)) rfl ⟨rfl, rfl, rfl⟩ rfl rfl ?_
    refine x_s 325 rfl rfl rfl ?_
    exact x_ri rfl (Or.inl rfl) h

theorem bk_Mo_draw_331 {k : Nat} {pa pb : Nat} {ga : Nat → Nat} {I : pm_II} {J : pm_JJ} {Q : Option Value → pm_H → Prop} {x1 : Int32} {x2 : Int32} {x3 : Int32} {x4 : Int32} (h : ((64 ≤ x4 → Q (some (.int x3)) (hp I J (pm_RT pa pb ga))) ∧ (¬ (64 ≤ x4) → vp_in x4 64 ∧ vp_in (((64 : Int32) * x1) + x4) 2048 ∧ vp_in x4 64 ∧ Px (k + 1) 176 m_Mo_draw 331 [.ref 120, .int x1, .int x2, .int (x3 + (I 137 ((x4 : Int32).toNatClampNeg))), .int (x4 + Int32.ofInt 1), .null, .null, .null, .null, .null] [] (hp (pm_up I 136 (((((64 : Int32) * x1) + x4) : Int32).toNatClampNeg) (I 137 ((x4 : Int32).toNatClampNeg))) J (pm_RT pa pb ga)) Q))) : Px (k + 1) 176 m_Mo_draw 331 [.ref 120, .int x1, .int x2, .int x3, .int x4, .null, .null, .null, .null, .null] [] (hp I J (pm_RT pa pb ga)) Q := by
  refine x_l 333 rfl rfl rfl ?_
  refine z_k 335 64 rfl (by decide) rfl ?_
  refine x_b 338 rfl rfl rfl (fun c => ?_) (fun c => ?_)
  · have h := h.1 c
    refine x_l 374 rfl rfl rfl ?_
    exact x_ri rfl (Or.inl rfl) h
  · have h := h.2 c
    refine x_l 339 rfl rfl rfl ?_
    refine z_gf 342 (.ref 136) rfl ⟨rfl, rfl, rfl⟩ rfl rfl ?_
    refine z_k 344 64 rfl (by decide) rfl ?_
    refine x_l 345 rfl rfl rfl ?_
    refine x_s 346 rfl rfl rfl ?_
    refine x_l 348 rfl rfl rfl ?_
    refine x_s 349 rfl rfl rfl ?_
    refine x_l 350 rfl rfl rfl ?_
    refine z_gf 353 (.ref 137) rfl ⟨rfl, rfl, rfl⟩ rfl rfl ?_
    refine x_l 355 rfl rfl rfl ?_
    have h1 := h.1
    have h := h.2
    refine z_il 356 64 rfl ⟨rfl, rfl, rfl⟩ rfl h1 rfl ?_
    have h1 := h.1
    have h := h.2
    refine z_is 357 2048 rfl ⟨rfl, rfl, rfl⟩ rfl h1 rfl ?_
    refine x_l 358 rfl rfl rfl ?_
    refine x_l 359 rfl rfl rfl ?_
    refine z_gf 362 (.ref 137) rfl ⟨rfl, rfl, rfl⟩ rfl rfl ?_
    refine x_l 364 rfl rfl rfl ?_
    have h1 := h.1
    have h := h.2
    refine z_il 365 64 rfl ⟨rfl, rfl, rfl⟩ rfl h1 rfl ?_
    refine x_s 366 rfl rfl rfl ?_
    refine x_t 367 rfl rfl rfl ?_
    refine x_t 370 rfl rfl rfl ?_
    refine x_g rfl ?_
    exact h

theorem bk_Mo_fill_0 {k : Nat} {pa pb : Nat} {ga : Nat → Nat} {I : pm_II} {J : pm_JJ} {Q : Option Value → pm_H → Prop} {x1 : Int32} {x2 : Int32} {x3 : Int32} {x4 : Int32} {x5 : Int32} (h : Px k 176 m_Mo_fill 3 [.ref 120, .int x1, .int x2, .int x3, .int x4, .int x5, .int x2, .null] [] (hp I J (pm_RT pa pb ga)) Q) : Px k 176 m_Mo_fill 0 [.ref 120, .int x1, .int x2, .int x3, .int x4, .int x5, .null, .null] [] (hp I J (pm_RT pa pb ga)) Q := by
  refine x_l 1 rfl rfl rfl ?_
  refine x_t 3 rfl rfl rfl ?_
  exact h

theorem bk_Mo_fill_3 {k : Nat} {pa pb : Nat} {ga : Nat → Nat} {I : pm_II} {J : pm_JJ} {Q : Option Value → pm_H → Prop} {x1 : Int32} {x2 : Int32} {x3 : Int32} {x4 : Int32} {x5 : Int32} {x6 : Int32} (h : (((x2 + x4) ≤ x6 → Px k 176 m_Mo_fill 64 [.ref 120, .int x1, .int x2, .int x3, .int x4, .int x5, .int x6, .null] [] (hp I J (pm_RT pa pb ga)) Q) ∧ (¬ ((x2 + x4) ≤ x6) → ((8 ≤ x6 → Px k 176 m_Mo_fill 64 [.ref 120, .int x1, .int x2, .int x3, .int x4, .int x5, .int x6, .null] [] (hp I J (pm_RT pa pb ga)) Q) ∧ (¬ (8 ≤ x6) → Px k 176 m_Mo_fill 22 [.ref 120, .int x1, .int x2, .int x3, .int x4, .int x5, .int x6, .int x1] [] (hp I J (pm_RT pa pb ga)) Q))))) : Px k 176 m_Mo_fill 3 [.ref 120, .int x1, .int x2, .int x3, .int x4, .int x5, .int x6, .null] [] (hp I J (pm_RT pa pb ga)) Q := by
  refine x_l 5 rfl rfl rfl ?_
  refine x_l 6 rfl rfl rfl ?_
  refine x_l 8 rfl rfl rfl ?_
  refine x_s 9 rfl rfl rfl ?_
  refine x_b 12 rfl rfl rfl (fun c => ?_) (fun c => ?_)
  · have h := h.1 c
    exact h
  · have h := h.2 c
    refine x_l 14 rfl rfl rfl ?_
    refine z_k 16 8 rfl (by decide) rfl ?_
    refine x_b 19 rfl rfl rfl (fun c => ?_) (fun c => ?_)
    · have h := h.1 c
      exact h
    · have h := h.2 c
      refine x_l 20 rfl rfl rfl ?_
      refine x_t 22 rfl rfl rfl ?_
      exact h

theorem bk_Mo_fill_22 {k : Nat} {pa pb : Nat} {ga : Nat → Nat} {I : pm_II} {J : pm_JJ} {Q : Option Value → pm_H → Prop} {x1 : Int32} {x2 : Int32} {x3 : Int32} {x4 : Int32} {x5 : Int32} {x6 : Int32} {x7 : Int32} (h : (((x1 + x3) ≤ x7 → Px k 176 m_Mo_fill 58 [.ref 120, .int x1, .int x2, .int x3, .int x4, .int x5, .int x6, .int x7] [] (hp I J (pm_RT pa pb ga)) Q) ∧ (¬ ((x1 + x3) ≤ x7) → ((8 ≤ x7 → Px k 176 m_Mo_fill 58 [.ref 120, .int x1, .int x2, .int x3, .int x4, .int x5, .int x6, .int x7] [] (hp I J (pm_RT pa pb ga)) Q) ∧ (¬ (8 ≤ x7) → vp_in (((8 : Int32) * x6) + x7) 64 ∧ Px k 176 m_Mo_fill 22 [.ref 120, .int x1, .int x2, .int x3, .int x4, .int x5, .int x6, .int (x7 + Int32.ofInt 1)] [] (hp (pm_up I 137 (((((8 : Int32) * x6) + x7) : Int32).toNatClampNeg) x5) J (pm_RT pa pb ga)) Q))))) : Px k 176 m_Mo_fill 22 [.ref 120, .int x1, .int x2, .int x3, .int x4, .int x5, .int x6, .int x7] [] (hp I J (pm_RT pa pb ga)) Q := by
  refine x_l 24 rfl rfl rfl ?_
  refine x_l 25 rfl rfl rfl ?_
  refine x_l 26 rfl rfl rfl ?_
  refine x_s 27 rfl rfl rfl ?_
  refine x_b 30 rfl rfl rfl (fun c => ?_) (fun c => ?_)
  · have h := h.1 c
    exact h
  · have h := h.2 c
    refine x_l 32 rfl rfl rfl ?_
    refine z_k 34 8 rfl (by decide) rfl ?_
    refine x_b 37 rfl rfl rfl (fun c => ?_) (fun c => ?_)
    · have h := h.1 c
      exact h
    · have h := h.2 c
      refine x_l 38 rfl rfl rfl ?_
      refine z_gf 41 (.ref 137) rfl ⟨rfl, rfl, rfl⟩ rfl rfl ?_
      refine z_k 43 8 rfl (by decide) rfl ?_
      refine x_l 45 rfl rfl rfl ?_
      refine x_s 46 rfl rfl rfl ?_
      refine x_l 48 rfl rfl rfl ?_
      refine x_s 49 rfl rfl rfl ?_
      refine x_l 51 rfl rfl rfl ?_
      have h1 := h.1
      have h := h.2
      refine z_is 52 64 rfl ⟨rfl, rfl, rfl⟩ rfl h1 rfl ?_
      refine x_t 55 rfl rfl rfl ?_
      refine x_g rfl ?_
      exact h

theorem bk_Mo_fill_58 {k : Nat} {pa pb : Nat} {ga : Nat → Nat} {I : pm_II} {J : pm_JJ} {Q : Option Value → pm_H → Prop} {x1 : Int32} {x2 : Int32} {x3 : Int32} {x4 : Int32} {x5 : Int32} {x6 : Int32} {x7 : Int32} (h : Px k 176 m_Mo_fill 3 [.ref 120, .int x1, .int x2, .int x3, .int x4, .int x5, .int (x6 + Int32.ofInt 1), .int x7] [] (hp I J (pm_RT pa pb ga)) Q) : Px k 176 m_Mo_fill 58 [.ref 120, .int x1, .int x2, .int x3, .int x4, .int x5, .int x6, .int x7] [] (hp I J (pm_RT pa pb ga)) Q := by
  refine x_t 61 rfl rfl rfl ?_
  refine x_g rfl ?_
  exact h

theorem bk_Mo_fill_64 {k : Nat} {pa pb : Nat} {ga : Nat → Nat} {I : pm_II} {J : pm_JJ} {Q : Option Value → pm_H → Prop} {x1 : Int32} {x2 : Int32} {x3 : Int32} {x4 : Int32} {x5 : Int32} {x6 : Int32} (h : Q none (hp I J (pm_RT pa pb ga))) : Px k 176 m_Mo_fill 64 [.ref 120, .int x1, .int x2, .int x3, .int x4, .int x5, .int x6, .null] [] (hp I J (pm_RT pa pb ga)) Q := by
  exact x_rv rfl rfl h

theorem bk_Mo_point_0 {k : Nat} {pa pb : Nat} {ga : Nat → Nat} {I : pm_II} {J : pm_JJ} {Q : Option Value → pm_H → Prop} {x1 : Int32} {x2 : Int32} {x3 : Int32} {x4 : Int32} (h : Px k 176 m_Mo_isSide 0 [.ref 120, .int x1, .int x2] [] (hp I J (pm_RT pa pb ga)) (fun r h' => h'.1 = 176 ∧ Px (k + 1) 176 m_Mo_point 6 [.ref 120, .int x1, .int x2, .int x3, .int x4] (r.toList ++ []) h' Q)) : Px (k + 1) 176 m_Mo_point 0 [.ref 120, .int x1, .int x2, .int x3, .int x4] [] (hp I J (pm_RT pa pb ga)) Q := by
  refine x_l 1 rfl rfl rfl ?_
  refine x_l 2 rfl rfl rfl ?_
  refine x_l 3 rfl rfl rfl ?_
  exact z_cv (As := [.int x1, .int x2]) (rest := []) (b := 120) rfl at_Mo_isSide rfl rfl (Nat.le_of_ble_eq_true rfl) (Nat.le_of_ble_eq_true rfl) ⟨rfl, rfl, rfl⟩ (by decide) rfl h

theorem bk_Mo_point_6 {k : Nat} {pa pb : Nat} {ga : Nat → Nat} {I : pm_II} {J : pm_JJ} {Q : Option Value → pm_H → Prop} {x1 : Int32} {x2 : Int32} {x3 : Int32} {x4 : Int32} {s0 : Int32} (h : ((s0 = 0 → Q (some (.int (-1))) (hp I J (pm_RT pa pb ga))) ∧ (¬ (s0 = 0) → Px k 176 m_Mo_is 0 [.int x3, .int 0, .int (((8 : Int32) * (I 120 19)) - (1 : Int32))] [] (hp I J (pm_RT pa pb ga)) (fun r h' => h'.1 = 176 ∧ Px (k + 1) 176 m_Mo_point 23 [.ref 120, .int x1, .int x2, .int x3, .int x4] (r.toList ++ []) h' Q)))) : Px (k + 1) 176 m_Mo_point 6 [.ref 120, .int x1, .int x2, .int x3, .int x4] [.int s0] (hp I J (pm_RT pa pb ga)) Q := by
  refine x_b 9 rfl rfl rfl (fun c => ?_) (fun c => ?_)
  · have h := h.1 c
    refine z_k 57 (-1) rfl (by decide) rfl ?_
    exact x_ri rfl (Or.inl rfl) h
  · have h := h.2 c
    refine x_l 10 rfl rfl rfl ?_
    refine z_k 11 0 rfl (by decide) rfl ?_
    refine z_k 13 8 rfl (by decide) rfl ?_
    refine x_l 14 rfl rfl rfl ?_
    refine z_gf 17 (.int (I 120 19)) rfl ⟨rfl, rfl, rfl⟩ rfl rfl ?_
    refine x_s 18 rfl rfl rfl ?_
    refine z_k 19 1 rfl (by decide) rfl ?_
    refine x_s 20 rfl rfl rfl ?_
    exact z_cs (As := [.int x3, .int 0, .int (((8 : Int32) * (I 120 19)) - (1 : Int32))]) (rest := []) rfl at_Mo_is rfl rfl (Nat.le_of_ble_eq_true rfl) (Nat.le_of_ble_eq_true rfl) rfl h

theorem bk_Mo_point_23 {k : Nat} {pa pb : Nat} {ga : Nat → Nat} {I : pm_II} {J : pm_JJ} {Q : Option Value → pm_H → Prop} {x1 : Int32} {x2 : Int32} {x3 : Int32} {x4 : Int32} {s0 : Int32} (h : ((s0 = 0 → Q (some (.int (-1))) (hp I J (pm_RT pa pb ga))) ∧ (¬ (s0 = 0) → Px k 176 m_Mo_is 0 [.int x4, .int 0, .int (((8 : Int32) * (I 120 18)) - (1 : Int32))] [] (hp I J (pm_RT pa pb ga)) (fun r h' => h'.1 = 176 ∧ Px (k + 1) 176 m_Mo_point 41 [.ref 120, .int x1, .int x2, .int x3, .int x4] (r.toList ++ []) h' Q)))) : Px (k + 1) 176 m_Mo_point 23 [.ref 120, .int x1, .int x2, .int x3, .int x4] [.int s0] (hp I J (pm_RT pa pb ga)) Q := by
  refine x_b 26 rfl rfl rfl (fun c => ?_) (fun c => ?_)
  · have h := h.1 c
    refine z_k 57 (-1) rfl (by decide) rfl ?_
    exact x_ri rfl (Or.inl rfl) h
  · have h := h.2 c
    refine x_l 28 rfl rfl rfl ?_
    refine z_k 29 0 rfl (by decide) rfl ?_
    refine z_k 31 8 rfl (by decide) rfl ?_
    refine x_l 32 rfl rfl rfl ?_
    refine z_gf 35 (.int (I 120 18)) rfl ⟨rfl, rfl, rfl⟩ rfl rfl ?_
    refine x_s 36 rfl rfl rfl ?_
    refine z_k 37 1 rfl (by decide) rfl ?_
    refine x_s 38 rfl rfl rfl ?_
    exact z_cs (As := [.int x4, .int 0, .int (((8 : Int32) * (I 120 18)) - (1 : Int32))]) (rest := []) rfl at_Mo_is rfl rfl (Nat.le_of_ble_eq_true rfl) (Nat.le_of_ble_eq_true rfl) rfl h

theorem bk_Mo_point_41 {k : Nat} {pa pb : Nat} {ga : Nat → Nat} {I : pm_II} {J : pm_JJ} {Q : Option Value → pm_H → Prop} {x1 : Int32} {x2 : Int32} {x3 : Int32} {x4 : Int32} {s0 : Int32} (h : ((s0 = 0 → Q (some (.int (-1))) (hp I J (pm_RT pa pb ga))) ∧ (¬ (s0 = 0) → Px k 176 m_Mo_pointAt 0 [.ref 120, .int x1, .int x2, .int x3, .int x4, .null, .null, .null, .null, .null, .null, .null] [] (hp I J (pm_RT pa pb ga)) (fun r h' => h'.1 = 176 ∧ Px (k + 1) 176 m_Mo_point 53 [.ref 120, .int x1, .int x2, .int x3, .int x4] (r.toList ++ []) h' Q)))) : Px (k + 1) 176 m_Mo_point 41 [.ref 120, .int x1, .int x2, .int x3, .int x4] [.int s0] (hp I J (pm_RT pa pb ga)) Q := by
  refine x_b 44 rfl rfl rfl (fun c => ?_) (fun c => ?_)
  · have h := h.1 c
    refine z_k 57 (-1) rfl (by decide) rfl ?_
    exact x_ri rfl (Or.inl rfl) h
  · have h := h.2 c
    refine x_l 45 rfl rfl rfl ?_
    refine x_l 46 rfl rfl rfl ?_
    refine x_l 47 rfl rfl rfl ?_
    refine x_l 48 rfl rfl rfl ?_
    refine x_l 50 rfl rfl rfl ?_
    exact z_cv (As := [.int x1, .int x2, .int x3, .int x4]) (rest := []) (b := 120) rfl at_Mo_pointAt rfl rfl (Nat.le_of_ble_eq_true rfl) (Nat.le_of_ble_eq_true rfl) ⟨rfl, rfl, rfl⟩ (by decide) rfl h

theorem bk_Mo_point_53 {k : Nat} {pa pb : Nat} {ga : Nat → Nat} {I : pm_II} {J : pm_JJ} {Q : Option Value → pm_H → Prop} {x1 : Int32} {x2 : Int32} {x3 : Int32} {x4 : Int32} {s0 : Int32} (h : Q (some (.int s0)) (hp I J (pm_RT pa pb ga))) : Px (k + 1) 176 m_Mo_point 53 [.ref 120, .int x1, .int x2, .int x3, .int x4] [.int s0] (hp I J (pm_RT pa pb ga)) Q := by
  refine x_g rfl ?_
  exact x_ri rfl (Or.inl rfl) h

theorem bk_Mo_isSide_0 {k : Nat} {pa pb : Nat} {ga : Nat → Nat} {I : pm_II} {J : pm_JJ} {Q : Option Value → pm_H → Prop} {x1 : Int32} {x2 : Int32} (h : Px k 176 m_Mo_is 0 [.int x1, .int 0, .int ((I 120 20) - (1 : Int32))] [] (hp I J (pm_RT pa pb ga)) (fun r h' => h'.1 = 176 ∧ Px (k + 1) 176 m_Mo_isSide 11 [.ref 120, .int x1, .int x2] (r.toList ++ []) h' Q)) : Px (k + 1) 176 m_Mo_isSide 0 [.ref 120, .int x1, .int x2] [] (hp I J (pm_RT pa pb ga)) Q := by
  refine x_l 1 rfl rfl rfl ?_
  refine z_k 2 0 rfl (by decide) rfl ?_
  refine x_l 3 rfl rfl rfl ?_
  refine z_gf 6 (.int (I 120 20)) rfl ⟨rfl, rfl, rfl⟩ rfl rfl ?_
  refine z_k 7 1 rfl (by decide) rfl ?_
  refine x_s 8 rfl rfl rfl ?_
  exact z_cs (As := [.int x1, .int 0, .int ((I 120 20) - (1 : Int32))]) (rest := []) rfl at_Mo_is rfl rfl (Nat.le_of_ble_eq_true rfl) (Nat.le_of_ble_eq_true rfl) rfl h

theorem bk_Mo_isSide_11 {k : Nat} {pa pb : Nat} {ga : Nat → Nat} {I : pm_II} {J : pm_JJ} {Q : Option Value → pm_H → Prop} {x1 : Int32} {x2 : Int32} {s0 : Int32} (h : ((s0 = 0 → Q (some (.int 0)) (hp I J (pm_RT pa pb ga))) ∧ (¬ (s0 = 0) → Px k 176 m_Mo_is 0 [.int x2, .int 0, .int 1] [] (hp I J (pm_RT pa pb ga)) (fun r h' => h'.1 = 176 ∧ Px (k + 1) 176 m_Mo_isSide 20 [.ref 120, .int x1, .int x2] (r.toList ++ []) h' Q)))) : Px (k + 1) 176 m_Mo_isSide 11 [.ref 120, .int x1, .int x2] [.int s0] (hp I J (pm_RT pa pb ga)) Q := by
  refine x_b 14 rfl rfl rfl (fun c => ?_) (fun c => ?_)
  · have h := h.1 c
    refine z_k 28 0 rfl (by decide) rfl ?_
    exact x_ri rfl (Or.inr ⟨rfl, Or.inl rfl⟩) h
  · have h := h.2 c
    refine x_l 15 rfl rfl rfl ?_
    refine z_k 16 0 rfl (by decide) rfl ?_
    refine z_k 17 1 rfl (by decide) rfl ?_
    exact z_cs (As := [.int x2, .int 0, .int 1]) (rest := []) rfl at_Mo_is rfl rfl (Nat.le_of_ble_eq_true rfl) (Nat.le_of_ble_eq_true rfl) rfl h

theorem bk_Mo_isSide_20 {k : Nat} {pa pb : Nat} {ga : Nat → Nat} {I : pm_II} {J : pm_JJ} {Q : Option Value → pm_H → Prop} {x1 : Int32} {x2 : Int32} {s0 : Int32} (h : ((s0 = 0 → Q (some (.int 0)) (hp I J (pm_RT pa pb ga))) ∧ (¬ (s0 = 0) → Q (some (.int 1)) (hp I J (pm_RT pa pb ga))))) : Px (k + 1) 176 m_Mo_isSide 20 [.ref 120, .int x1, .int x2] [.int s0] (hp I J (pm_RT pa pb ga)) Q := by
  refine x_b 23 rfl rfl rfl (fun c => ?_) (fun c => ?_)
  · have h := h.1 c
    refine z_k 28 0 rfl (by decide) rfl ?_
    exact x_ri rfl (Or.inr ⟨rfl, Or.inl rfl⟩) h
  · have h := h.2 c
    refine z_k 24 1 rfl (by decide) rfl ?_
    refine x_g rfl ?_
    exact x_ri rfl (Or.inr ⟨rfl, Or.inr rfl⟩) h

theorem bk_Mo_pointAt_0 {k : Nat} {pa pb : Nat} {ga : Nat → Nat} {I : pm_II} {J : pm_JJ} {Q : Option Value → pm_H → Prop} {x1 : Int32} {x2 : Int32} {x3 : Int32} {x4 : Int32} (h : ((¬ x2 = 0 → Px (k + 1) 176 m_Mo_pointAt 29 [.ref 120, .int x1, .int x2, .int x3, .int x4, .int (x4 / 8), .null, .null, .null, .null, .null, .null] [.int (((I 120 19) - (1 : Int32)) - (x3 / 8))] (hp I J (pm_RT pa pb ga)) Q) ∧ (¬ (¬ x2 = 0) → Px (k + 1) 176 m_Mo_pointAt 29 [.ref 120, .int x1, .int x2, .int x3, .int x4, .int (x4 / 8), .null, .null, .null, .null, .null, .null] [.int (x3 / 8)] (hp I J (pm_RT pa pb ga)) Q))) : Px (k + 1) 176 m_Mo_pointAt 0 [.ref 120, .int x1, .int x2, .int x3, .int x4, .null, .null, .null, .null, .null, .null, .null] [] (hp I J (pm_RT pa pb ga)) Q := by
  refine x_l 2 rfl rfl rfl ?_
  refine z_k 4 8 rfl (by decide) rfl ?_
  refine x_dv 5 rfl (by decide) rfl ?_
  refine x_t 7 rfl rfl rfl ?_
  refine x_l 8 rfl rfl rfl ?_
  refine x_b 11 rfl rfl rfl (fun c => ?_) (fun c => ?_)
  · have h := h.1 c
    refine x_l 19 rfl rfl rfl ?_
    refine z_gf 22 (.int (I 120 19)) rfl ⟨rfl, rfl, rfl⟩ rfl rfl ?_
    refine z_k 23 1 rfl (by decide) rfl ?_
    refine x_s 24 rfl rfl rfl ?_
    refine x_l 25 rfl rfl rfl ?_
    refine z_k 27 8 rfl (by decide) rfl ?_
    refine x_dv 28 rfl (by decide) rfl ?_
    refine x_s 29 rfl rfl rfl ?_
    exact h
  · have h := h.2 c
    refine x_l 12 rfl rfl rfl ?_
    refine z_k 14 8 rfl (by decide) rfl ?_
    refine x_dv 15 rfl (by decide) rfl ?_
    refine x_g rfl ?_
    exact h

theorem bk_Mo_pointAt_29 {k : Nat} {pa pb : Nat} {ga : Nat → Nat} {I : pm_II} {J : pm_JJ} {Q : Option Value → pm_H → Prop} {x1 : Int32} {x2 : Int32} {x3 : Int32} {x4 : Int32} {x5 : Int32} {s0 : Int32} (h : Px k 176 m_Mo_pageOf 0 [.ref 120, .int x1, .int x2, .int x5, .int s0, .null, .null] [] (hp I J (pm_RT pa pb ga)) (fun r h' => h'.1 = 176 ∧ Px (k + 1) 176 m_Mo_pointAt 41 [.ref 120, .int x1, .int x2, .int x3, .int x4, .int x5, .int s0, .null, .null, .null, .null, .null] (r.toList ++ []) h' Q)) : Px (k + 1) 176 m_Mo_pointAt 29 [.ref 120, .int x1, .int x2, .int x3, .int x4, .int x5, .null, .null, .null, .null, .null, .null] [.int s0] (hp I J (pm_RT pa pb ga)) Q := by
  refine x_t 31 rfl rfl rfl ?_
  refine x_l 32 rfl rfl rfl ?_
  refine x_l 33 rfl rfl rfl ?_
  refine x_l 34 rfl rfl rfl ?_
  refine x_l 36 rfl rfl rfl ?_
  refine x_l 38 rfl rfl rfl ?_
  exact z_cv (As := [.int x1, .int x2, .int x5, .int s0]) (rest := []) (b := 120) rfl at_Mo_pageOf rfl rfl (Nat.le_of_ble_eq_true rfl) (Nat.le_of_ble_eq_true rfl) ⟨rfl, rfl, rfl⟩ (by decide) rfl h

theorem bk_Mo_pointAt_41 {k : Nat} {pa pb : Nat} {ga : Nat → Nat} {I : pm_II} {J : pm_JJ} {Q : Option Value → pm_H → Prop} {x1 : Int32} {x2 : Int32} {x3 : Int32} {x4 : Int32} {x5 : Int32} {x6 : Int32} {s0 : Int32} (h : vp_in (((8 : Int32) * x5) + x6) 64 ∧ (((I 134 (((((8 : Int32) * x5) + x6) : Int32).toNatClampNeg)) = 0 → Px (k + 1) 176 m_Mo_pointAt 77 [.ref 120, .int x1, .int x2, .int x3, .int x4, .int x5, .int x6, .int s0, .int (I 134 (((((8 : Int32) * x5) + x6) : Int32).toNatClampNeg)), .null, .null, .null] [.int (x3 - x3 / 8 * 8)] (hp I J (pm_RT pa pb ga)) Q) ∧ (¬ ((I 134 (((((8 : Int32) * x5) + x6) : Int32).toNatClampNeg)) = 0) → Px (k + 1) 176 m_Mo_pointAt 77 [.ref 120, .int x1, .int x2, .int x3, .int x4, .int x5, .int x6, .int s0, .int (I 134 (((((8 : Int32) * x5) + x6) : Int32).toNatClampNeg)), .null, .null, .null] [.int ((7 : Int32) - (x3 - x3 / 8 * 8))] (hp I J (pm_RT pa pb ga)) Q))) : Px (k + 1) 176 m_Mo_pointAt 41 [.ref 120, .int x1, .int x2, .int x3, .int x4, .int x5, .int x6, .null, .null, .null, .null, .null] [.int s0] (hp I J (pm_RT pa pb ga)) Q := by
  refine x_t 43 rfl rfl rfl ?_
  refine x_l 44 rfl rfl rfl ?_
  refine z_gf 47 (.ref 134) rfl ⟨rfl, rfl, rfl⟩ rfl rfl ?_
  refine z_k 49 8 rfl (by decide) rfl ?_
  refine x_l 51 rfl rfl rfl ?_
  refine x_s 52 rfl rfl rfl ?_
  refine x_l 54 rfl rfl rfl ?_
  refine x_s 55 rfl rfl rfl ?_
  have h1 := h.1
  have h := h.2
  refine z_zl 56 64 rfl ⟨rfl, rfl, rfl⟩ rfl h1 rfl ?_
  refine x_t 58 rfl rfl rfl ?_
  refine x_l 60 rfl rfl rfl ?_
  refine x_b 63 rfl rfl rfl (fun c => ?_) (fun c => ?_)
  · have h := h.1 c
    refine x_l 74 rfl rfl rfl ?_
    refine z_k 76 8 rfl (by decide) rfl ?_
    refine x_rm 77 rfl (by decide) rfl ?_
    exact h
  · have h := h.2 c
    refine z_k 65 7 rfl (by decide) rfl ?_
    refine x_l 66 rfl rfl rfl ?_
    refine z_k 68 8 rfl (by decide) rfl ?_
    refine x_rm 69 rfl (by decide) rfl ?_
    refine x_s 70 rfl rfl rfl ?_
    refine x_g rfl ?_
    exact h

theorem bk_Mo_pointAt_77 {k : Nat} {pa pb : Nat} {ga : Nat → Nat} {I : pm_II} {J : pm_JJ} {Q : Option Value → pm_H → Prop} {x1 : Int32} {x2 : Int32} {x3 : Int32} {x4 : Int32} {x5 : Int32} {x6 : Int32} {x7 : Int32} {x8 : Int32} {s0 : Int32} (h : ((x8 = 0 → Px (k + 1) 176 m_Mo_pointAt 100 [.ref 120, .int x1, .int x2, .int x3, .int x4, .int x5, .int x6, .int x7, .int x8, .int s0, .null, .null] [.int (x4 - x4 / 8 * 8)] (hp I J (pm_RT pa pb ga)) Q) ∧ (¬ (x8 = 0) → Px (k + 1) 176 m_Mo_pointAt 100 [.ref 120, .int x1, .int x2, .int x3, .int x4, .int x5, .int x6, .int x7, .int x8, .int s0, .null, .null] [.int ((7 : Int32) - (x4 - x4 / 8 * 8))] (hp I J (pm_RT pa pb ga)) Q))) : Px (k + 1) 176 m_Mo_pointAt 77 [.ref 120, .int x1, .int x2, .int x3, .int x4, .int x5, .int x6, .int x7, .int x8, .null, .null, .null] [.int s0] (hp I J (pm_RT pa pb ga)) Q := by
  refine x_t 79 rfl rfl rfl ?_
  refine x_l 81 rfl rfl rfl ?_
  refine x_b 84 rfl rfl rfl (fun c => ?_) (fun c => ?_)
  · have h := h.1 c
    refine x_l 97 rfl rfl rfl ?_
    refine z_k 99 8 rfl (by decide) rfl ?_
    refine x_rm 100 rfl (by decide) rfl ?_
    exact h
  · have h := h.2 c
    refine z_k 86 7 rfl (by decide) rfl ?_
    refine x_l 88 rfl rfl rfl ?_
    refine z_k 90 8 rfl (by decide) rfl ?_
    refine x_rm 91 rfl (by decide) rfl ?_
    refine x_s 92 rfl rfl rfl ?_
    refine x_g rfl ?_
    exact h

theorem bk_Mo_pointAt_100 {k : Nat} {pa pb : Nat} {ga : Nat → Nat} {I : pm_II} {J : pm_JJ} {Q : Option Value → pm_H → Prop} {x1 : Int32} {x2 : Int32} {x3 : Int32} {x4 : Int32} {x5 : Int32} {x6 : Int32} {x7 : Int32} {x8 : Int32} {x9 : Int32} {s0 : Int32} (h : ((32 ≤ x7 → Px (k + 1) 176 m_Mo_pointAt 132 [.ref 120, .int x1, .int x2, .int x3, .int x4, .int x5, .int x6, .int x7, .int x8, .int x9, .int s0, .null] [.int 0] (hp I J (pm_RT pa pb ga)) Q) ∧ (¬ (32 ≤ x7) → vp_in ((((64 : Int32) * x7) + ((8 : Int32) * s0)) + x9) 2048 ∧ Px (k + 1) 176 m_Mo_pointAt 132 [.ref 120, .int x1, .int x2, .int x3, .int x4, .int x5, .int x6, .int x7, .int x8, .int x9, .int s0, .null] [.int (I 136 ((((((64 : Int32) * x7) + ((8 : Int32) * s0)) + x9) : Int32).toNatClampNeg))] (hp I J (pm_RT pa pb ga)) Q))) : Px (k + 1) 176 m_Mo_pointAt 100 [.ref 120, .int x1, .int x2, .int x3, .int x4, .int x5, .int x6, .int x7, .int x8, .int x9, .null, .null] [.int s0] (hp I J (pm_RT pa pb ga)) Q := by
  refine x_t 102 rfl rfl rfl ?_
  refine x_l 104 rfl rfl rfl ?_
  refine z_k 106 32 rfl (by decide) rfl ?_
  refine x_b 109 rfl rfl rfl (fun c => ?_) (fun c => ?_)
  · have h := h.1 c
    refine z_k 132 0 rfl (by decide) rfl ?_
    exact h
  · have h := h.2 c
    refine x_l 110 rfl rfl rfl ?_
    refine z_gf 113 (.ref 136) rfl ⟨rfl, rfl, rfl⟩ rfl rfl ?_
    refine z_k 115 64 rfl (by decide) rfl ?_
    refine x_l 117 rfl rfl rfl ?_
    refine x_s 118 rfl rfl rfl ?_
    refine z_k 120 8 rfl (by decide) rfl ?_
    refine x_l 122 rfl rfl rfl ?_
    refine x_s 123 rfl rfl rfl ?_
    refine x_s 124 rfl rfl rfl ?_
    refine x_l 126 rfl rfl rfl ?_
    refine x_s 127 rfl rfl rfl ?_
    have h1 := h.1
    have h := h.2
    refine z_il 128 2048 rfl ⟨rfl, rfl, rfl⟩ rfl h1 rfl ?_
    refine x_g rfl ?_
    exact h

theorem bk_Mo_pointAt_132 {k : Nat} {pa pb : Nat} {ga : Nat → Nat} {I : pm_II} {J : pm_JJ} {Q : Option Value → pm_H → Prop} {x1 : Int32} {x2 : Int32} {x3 : Int32} {x4 : Int32} {x5 : Int32} {x6 : Int32} {x7 : Int32} {x8 : Int32} {x9 : Int32} {x10 : Int32} {s0 : Int32} (h : vp_in (((4 : Int32) * (x4 - x4 / 4 * 4)) + (x3 - x3 / 4 * 4)) 16 ∧ ((s0 ≤ (I 138 (((((4 : Int32) * (x4 - x4 / 4 * 4)) + (x3 - x3 / 4 * 4)) : Int32).toNatClampNeg)) → Q (some (.int 0)) (hp I J (pm_RT pa pb ga))) ∧ (¬ (s0 ≤ (I 138 (((((4 : Int32) * (x4 - x4 / 4 * 4)) + (x3 - x3 / 4 * 4)) : Int32).toNatClampNeg))) → Q (some (.int 1)) (hp I J (pm_RT pa pb ga))))) : Px (k + 1) 176 m_Mo_pointAt 132 [.ref 120, .int x1, .int x2, .int x3, .int x4, .int x5, .int x6, .int x7, .int x8, .int x9, .int x10, .null] [.int s0] (hp I J (pm_RT pa pb ga)) Q := by
  refine x_t 134 rfl rfl rfl ?_
  refine x_l 136 rfl rfl rfl ?_
  refine x_l 137 rfl rfl rfl ?_
  refine z_gf 140 (.ref 138) rfl ⟨rfl, rfl, rfl⟩ rfl rfl ?_
  refine z_k 141 4 rfl (by decide) rfl ?_
  refine x_l 143 rfl rfl rfl ?_
  refine z_k 144 4 rfl (by decide) rfl ?_
  refine x_rm 145 rfl (by decide) rfl ?_
  refine x_s 146 rfl rfl rfl ?_
  refine x_l 147 rfl rfl rfl ?_
  refine z_k 148 4 rfl (by decide) rfl ?_
  refine x_rm 149 rfl (by decide) rfl ?_
  refine x_s 150 rfl rfl rfl ?_
  have h1 := h.1
  have h := h.2
  refine z_il 151 16 rfl ⟨rfl, rfl, rfl⟩ rfl h1 rfl ?_
  refine x_b 154 rfl rfl rfl (fun c => ?_) (fun c => ?_)
  · have h := h.1 c
    refine z_k 159 0 rfl (by decide) rfl ?_
    exact x_ri rfl (Or.inl rfl) h
  · have h := h.2 c
    refine z_k 155 1 rfl (by decide) rfl ?_
    refine x_g rfl ?_
    exact x_ri rfl (Or.inl rfl) h

theorem bk_Mo_mount_0 {k : Nat} {pa pb : Nat} {ga : Nat → Nat} {I : pm_II} {J : pm_JJ} {Q : Option Value → pm_H → Prop} {x1 : Int32} {x2 : Int32} (h : Px k 176 m_Mo_isSide 0 [.ref 120, .int x1, .int x2] [] (hp I J (pm_RT pa pb ga)) (fun r h' => h'.1 = 176 ∧ Px (k + 1) 176 m_Mo_mount 6 [.ref 120, .int x1, .int x2, .null, .null, .null] (r.toList ++ []) h' Q)) : Px (k + 1) 176 m_Mo_mount 0 [.ref 120, .int x1, .int x2, .null, .null, .null] [] (hp I J (pm_RT pa pb ga)) Q := by
  refine x_l 1 rfl rfl rfl ?_
  refine x_l 2 rfl rfl rfl ?_
  refine x_l 3 rfl rfl rfl ?_
  exact z_cv (As := [.int x1, .int x2]) (rest := []) (b := 120) rfl at_Mo_isSide rfl rfl (Nat.le_of_ble_eq_true rfl) (Nat.le_of_ble_eq_true rfl) ⟨rfl, rfl, rfl⟩ (by decide) rfl h

theorem bk_Mo_mount_6 {k : Nat} {pa pb : Nat} {ga : Nat → Nat} {I : pm_II} {J : pm_JJ} {Q : Option Value → pm_H → Prop} {x1 : Int32} {x2 : Int32} {s0 : Int32} (h : ((¬ s0 = 0 → Px (k + 1) 176 m_Mo_mount 39 [.ref 120, .int x1, .int x2, .int 0, .null, .null] [] (hp (pm_up (pm_up (pm_up (pm_up I 120 32 (I 120 19)) 120 33 (I 120 18)) 120 37 0) 120 38 0) J (pm_RT pa pb ga)) Q) ∧ (¬ (¬ s0 = 0) → Q (some (.int (-1))) (hp I J (pm_RT pa pb ga))))) : Px (k + 1) 176 m_Mo_mount 6 [.ref 120, .int x1, .int x2, .null, .null, .null] [.int s0] (hp I J (pm_RT pa pb ga)) Q := by
  refine x_b 9 rfl rfl rfl (fun c => ?_) (fun c => ?_)
  · have h := h.1 c
    refine x_l 12 rfl rfl rfl ?_
    refine x_l 13 rfl rfl rfl ?_
    refine z_gf 16 (.int (I 120 19)) rfl ⟨rfl, rfl, rfl⟩ rfl rfl ?_
    refine z_pi 19 rfl (Or.inl rfl) rfl (fun z => by cases z) ⟨rfl, rfl, rfl⟩ rfl ?_
    refine x_l 20 rfl rfl rfl ?_
    refine x_l 21 rfl rfl rfl ?_
    refine z_gf 24 (.int (I 120 18)) rfl ⟨rfl, rfl, rfl⟩ rfl rfl ?_
    refine z_pi 27 rfl (Or.inl rfl) rfl (fun z => by cases z) ⟨rfl, rfl, rfl⟩ rfl ?_
    refine x_l 28 rfl rfl rfl ?_
    refine z_k 29 0 rfl (by decide) rfl ?_
    refine z_pi 32 rfl (Or.inl rfl) rfl (fun z => by cases z) ⟨rfl, rfl, rfl⟩ rfl ?_
    refine x_l 33 rfl rfl rfl ?_
    refine z_k 34 0 rfl (by decide) rfl ?_
    refine z_pi 37 rfl (Or.inl rfl) rfl (fun z => by cases z) ⟨rfl, rfl, rfl⟩ rfl ?_
    refine z_k 38 0 rfl (by decide) rfl ?_
    refine x_t 39 rfl rfl rfl ?_
    exact h
  · have h := h.2 c
    refine z_k 10 (-1) rfl (by decide) rfl ?_
    exact x_ri rfl (Or.inl rfl) h

theorem bk_Mo_mount_39 {k : Nat} {pa pb : Nat} {ga : Nat → Nat} {I : pm_II} {J : pm_JJ} {Q : Option Value → pm_H → Prop} {x1 : Int32} {x2 : Int32} {x3 : Int32} (h : (((I 120 32) ≤ x3 → Q (some (.int (I 120 32))) (hp I J (pm_RT pa pb ga))) ∧ (¬ ((I 120 32) ≤ x3) → vp_in x3 8 ∧ vp_in x3 8 ∧ vp_in x3 8 ∧ vp_in x3 8 ∧ vp_in x3 8 ∧ Px (k + 1) 176 m_Mo_mount 85 [.ref 120, .int x1, .int x2, .int x3, .int 0, .null] [] (hp (pm_up (pm_up I 140 ((x3 : Int32).toNatClampNeg) 0) 141 ((x3 : Int32).toNatClampNeg) 0) (pm_up (pm_up (pm_up J 143 ((x3 : Int32).toNatClampNeg) (Int64.ofNat 0)) 144 ((x3 : Int32).toNatClampNeg) (Int64.ofNat 0)) 145 ((x3 : Int32).toNatClampNeg) (Int64.ofNat 0)) (pm_RT pa pb ga)) Q))) : Px (k + 1) 176 m_Mo_mount 39 [.ref 120, .int x1, .int x2, .int x3, .null, .null] [] (hp I J (pm_RT pa pb ga)) Q := by
  refine x_l 40 rfl rfl rfl ?_
  refine x_l 41 rfl rfl rfl ?_
  refine z_gf 44 (.int (I 120 32)) rfl ⟨rfl, rfl, rfl⟩ rfl rfl ?_
  refine x_b 47 rfl rfl rfl (fun c => ?_) (fun c => ?_)
  · have h := h.1 c
    refine x_l 153 rfl rfl rfl ?_
    refine z_gf 156 (.int (I 120 32)) rfl ⟨rfl, rfl, rfl⟩ rfl rfl ?_
    exact x_ri rfl (Or.inl rfl) h
  · have h := h.2 c
    refine x_l 48 rfl rfl rfl ?_
    refine z_gf 51 (.ref 140) rfl ⟨rfl, rfl, rfl⟩ rfl rfl ?_
    refine x_l 52 rfl rfl rfl ?_
    refine z_k 53 0 rfl (by decide) rfl ?_
    have h1 := h.1
    have h := h.2
    refine z_is 54 8 rfl ⟨rfl, rfl, rfl⟩ rfl h1 rfl ?_
    refine x_l 55 rfl rfl rfl ?_
    refine z_gf 58 (.ref 141) rfl ⟨rfl, rfl, rfl⟩ rfl rfl ?_
    refine x_l 59 rfl rfl rfl ?_
    refine z_k 60 0 rfl (by decide) rfl ?_
    have h1 := h.1
    have h := h.2
    refine z_is 61 8 rfl ⟨rfl, rfl, rfl⟩ rfl h1 rfl ?_
    refine x_l 62 rfl rfl rfl ?_
    refine z_gf 65 (.ref 143) rfl ⟨rfl, rfl, rfl⟩ rfl rfl ?_
    refine x_l 66 rfl rfl rfl ?_
    refine x_s 67 rfl rfl rfl ?_
    have h1 := h.1
    have h := h.2
    refine z_js 68 8 rfl ⟨rfl, rfl, rfl⟩ rfl h1 rfl ?_
    refine x_l 69 rfl rfl rfl ?_
    refine z_gf 72 (.ref 144) rfl ⟨rfl, rfl, rfl⟩ rfl rfl ?_
    refine x_l 73 rfl rfl rfl ?_
    refine x_s 74 rfl rfl rfl ?_
    have h1 := h.1
    have h := h.2
    refine z_js 75 8 rfl ⟨rfl, rfl, rfl⟩ rfl h1 rfl ?_
    refine x_l 76 rfl rfl rfl ?_
    refine z_gf 79 (.ref 145) rfl ⟨rfl, rfl, rfl⟩ rfl rfl ?_
    refine x_l 80 rfl rfl rfl ?_
    refine x_s 81 rfl rfl rfl ?_
    have h1 := h.1
    have h := h.2
    refine z_js 82 8 rfl ⟨rfl, rfl, rfl⟩ rfl h1 rfl ?_
    refine z_k 83 0 rfl (by decide) rfl ?_
    refine x_t 85 rfl rfl rfl ?_
    exact h

theorem bk_Mo_mount_85 {k : Nat} {pa pb : Nat} {ga : Nat → Nat} {I : pm_II} {J : pm_JJ} {Q : Option Value → pm_H → Prop} {x1 : Int32} {x2 : Int32} {x3 : Int32} {x4 : Int32} (h : ((((8 : Int32) * (I 120 18)) ≤ x4 → Px (k + 1) 176 m_Mo_mount 39 [.ref 120, .int x1, .int x2, .int (x3 + Int32.ofInt 1), .int x4, .null] [] (hp I J (pm_RT pa pb ga)) Q) ∧ (¬ (((8 : Int32) * (I 120 18)) ≤ x4) → Px (k + 1) 176 m_Mo_mount 103 [.ref 120, .int x1, .int x2, .int x3, .int x4, .int ((8 : Int32) * x3)] [] (hp I J (pm_RT pa pb ga)) Q))) : Px (k + 1) 176 m_Mo_mount 85 [.ref 120, .int x1, .int x2, .int x3, .int x4, .null] [] (hp I J (pm_RT pa pb ga)) Q := by
  refine x_l 87 rfl rfl rfl ?_
  refine z_k 89 8 rfl (by decide) rfl ?_
  refine x_l 90 rfl rfl rfl ?_
  refine z_gf 93 (.int (I 120 18)) rfl ⟨rfl, rfl, rfl⟩ rfl rfl ?_
  refine x_s 94 rfl rfl rfl ?_
  refine x_b 97 rfl rfl rfl (fun c => ?_) (fun c => ?_)
  · have h := h.1 c
    refine x_t 149 rfl rfl rfl ?_
    refine x_g rfl ?_
    exact h
  · have h := h.2 c
    refine z_k 99 8 rfl (by decide) rfl ?_
    refine x_l 100 rfl rfl rfl ?_
    refine x_s 101 rfl rfl rfl ?_
    refine x_t 103 rfl rfl rfl ?_
    exact h

theorem bk_Mo_mount_103 {k : Nat} {pa pb : Nat} {ga : Nat → Nat} {I : pm_II} {J : pm_JJ} {Q : Option Value → pm_H → Prop} {x1 : Int32} {x2 : Int32} {x3 : Int32} {x4 : Int32} {x5 : Int32} (h : (((((8 : Int32) * x3) + (8 : Int32)) ≤ x5 → Px (k + 1) 176 m_Mo_mount 85 [.ref 120, .int x1, .int x2, .int x3, .int (x4 + Int32.ofInt 1), .int x5] [] (hp I J (pm_RT pa pb ga)) Q) ∧ (¬ ((((8 : Int32) * x3) + (8 : Int32)) ≤ x5) → vp_in x3 8 ∧ Px k 176 m_Mo_pointAt 0 [.ref 120, .int x1, .int x2, .int x5, .int x4, .null, .null, .null, .null, .null, .null, .null] [] (hp I J (pm_RT pa pb ga)) (fun r h' => h'.1 = 176 ∧ Px (k + 1) 176 m_Mo_mount 132 [.ref 120, .int x1, .int x2, .int x3, .int x4, .int x5] (r.toList ++ [.int (I 140 ((x3 : Int32).toNatClampNeg)), .int x3, .ref 140]) h' Q)))) : Px (k + 1) 176 m_Mo_mount 103 [.ref 120, .int x1, .int x2, .int x3, .int x4, .int x5] [] (hp I J (pm_RT pa pb ga)) Q := by
  refine x_l 105 rfl rfl rfl ?_
  refine z_k 107 8 rfl (by decide) rfl ?_
  refine x_l 108 rfl rfl rfl ?_
  refine x_s 109 rfl rfl rfl ?_
  refine z_k 111 8 rfl (by decide) rfl ?_
  refine x_s 112 rfl rfl rfl ?_
  refine x_b 115 rfl rfl rfl (fun c => ?_) (fun c => ?_)
  · have h := h.1 c
    refine x_t 143 rfl rfl rfl ?_
    refine x_g rfl ?_
    exact h
  · have h := h.2 c
    refine x_l 116 rfl rfl rfl ?_
    refine z_gf 119 (.ref 140) rfl ⟨rfl, rfl, rfl⟩ rfl rfl ?_
    refine x_l 120 rfl rfl rfl ?_
    refine x_s 121 rfl rfl rfl ?_
    have h1 := h.1
    have h := h.2
    refine z_il 122 8 rfl ⟨rfl, rfl, rfl⟩ rfl h1 rfl ?_
    refine x_l 123 rfl rfl rfl ?_
    refine x_l 124 rfl rfl rfl ?_
    refine x_l 125 rfl rfl rfl ?_
    refine x_l 127 rfl rfl rfl ?_
    refine x_l 129 rfl rfl rfl ?_
    exact z_cv (As := [.int x1, .int x2, .int x5, .int x4]) (rest := [.int (I 140 ((x3 : Int32).toNatClampNeg)), .int x3, .ref 140]) (b := 120) rfl at_Mo_pointAt rfl rfl (Nat.le_of_ble_eq_true rfl) (Nat.le_of_ble_eq_true rfl) ⟨rfl, rfl, rfl⟩ (by decide) rfl h

theorem bk_Mo_mount_132 {k : Nat} {pa pb : Nat} {ga : Nat → Nat} {I : pm_II} {J : pm_JJ} {Q : Option Value → pm_H → Prop} {x1 : Int32} {x2 : Int32} {x3 : Int32} {x4 : Int32} {x5 : Int32} {s1 : Int32} {s2 : Int32} {s3 : Int32} (h : vp_in s1 8 ∧ Px (k + 1) 176 m_Mo_mount 103 [.ref 120, .int x1, .int x2, .int x3, .int x4, .int (x5 + Int32.ofInt 1)] [] (hp (pm_up I 140 ((s1 : Int32).toNatClampNeg) (s2 + s3)) J (pm_RT pa pb ga)) Q) : Px (k + 1) 176 m_Mo_mount 132 [.ref 120, .int x1, .int x2, .int x3, .int x4, .int x5] [.int s3, .int s2, .int s1, .ref 140] (hp I J (pm_RT pa pb ga)) Q := by
  refine x_s 133 rfl rfl rfl ?_
  have h1 := h.1
  have h := h.2
  refine z_is 134 8 rfl ⟨rfl, rfl, rfl⟩ rfl h1 rfl ?_
  refine x_t 137 rfl rfl rfl ?_
  refine x_g rfl ?_
  exact h

theorem bk_Mo_key_0 {k : Nat} {pa pb : Nat} {ga : Nat → Nat} {I : pm_II} {J : pm_JJ} {Q : Option Value → pm_H → Prop} {x1 : Int32} {x2 : Int32} (h : Px k 176 m_Mo_is 0 [.int x1, .int 0, .int 7] [] (hp I J (pm_RT pa pb ga)) (fun r h' => h'.1 = 176 ∧ Px (k + 1) 176 m_Mo_key 7 [.ref 120, .int x1, .int x2, .null] (r.toList ++ []) h' Q)) : Px (k + 1) 176 m_Mo_key 0 [.ref 120, .int x1, .int x2, .null] [] (hp I J (pm_RT pa pb ga)) Q := by
  refine x_l 1 rfl rfl rfl ?_
  refine z_k 2 0 rfl (by decide) rfl ?_
  refine z_k 4 7 rfl (by decide) rfl ?_
  exact z_cs (As := [.int x1, .int 0, .int 7]) (rest := []) rfl at_Mo_is rfl rfl (Nat.le_of_ble_eq_true rfl) (Nat.le_of_ble_eq_true rfl) rfl h

theorem bk_Mo_key_7 {k : Nat} {pa pb : Nat} {ga : Nat → Nat} {I : pm_II} {J : pm_JJ} {Q : Option Value → pm_H → Prop} {x1 : Int32} {x2 : Int32} {s0 : Int32} (h : ((s0 = 0 → Q (some (.int (-1))) (hp I J (pm_RT pa pb ga))) ∧ (¬ (s0 = 0) → Px k 176 m_Mo_is 0 [.int x2, .int 0, .int 255] [] (hp I J (pm_RT pa pb ga)) (fun r h' => h'.1 = 176 ∧ Px (k + 1) 176 m_Mo_key 18 [.ref 120, .int x1, .int x2, .null] (r.toList ++ []) h' Q)))) : Px (k + 1) 176 m_Mo_key 7 [.ref 120, .int x1, .int x2, .null] [.int s0] (hp I J (pm_RT pa pb ga)) Q := by
  refine x_b 10 rfl rfl rfl (fun c => ?_) (fun c => ?_)
  · have h := h.1 c
    refine z_k 22 (-1) rfl (by decide) rfl ?_
    exact x_ri rfl (Or.inl rfl) h
  · have h := h.2 c
    refine x_l 11 rfl rfl rfl ?_
    refine z_k 12 0 rfl (by decide) rfl ?_
    refine z_k 15 255 rfl (by decide) rfl ?_
    exact z_cs (As := [.int x2, .int 0, .int 255]) (rest := []) rfl at_Mo_is rfl rfl (Nat.le_of_ble_eq_true rfl) (Nat.le_of_ble_eq_true rfl) rfl h

theorem bk_Mo_key_18 {k : Nat} {pa pb : Nat} {ga : Nat → Nat} {I : pm_II} {J : pm_JJ} {Q : Option Value → pm_H → Prop} {x1 : Int32} {x2 : Int32} {s0 : Int32} (h : ((¬ s0 = 0 → vp_in x1 8 ∧ vp_in x1 8 ∧ Q (some (.int (I 139 ((x1 : Int32).toNatClampNeg)))) (hp (pm_up I 139 ((x1 : Int32).toNatClampNeg) x2) J (pm_RT pa pb ga))) ∧ (¬ (¬ s0 = 0) → Q (some (.int (-1))) (hp I J (pm_RT pa pb ga))))) : Px (k + 1) 176 m_Mo_key 18 [.ref 120, .int x1, .int x2, .null] [.int s0] (hp I J (pm_RT pa pb ga)) Q := by
  refine x_b 21 rfl rfl rfl (fun c => ?_) (fun c => ?_)
  · have h := h.1 c
    refine x_l 24 rfl rfl rfl ?_
    refine z_gf 27 (.ref 139) rfl ⟨rfl, rfl, rfl⟩ rfl rfl ?_
    refine x_l 28 rfl rfl rfl ?_
    have h1 := h.1
    have h := h.2
    refine z_il 29 8 rfl ⟨rfl, rfl, rfl⟩ rfl h1 rfl ?_
    refine x_t 30 rfl rfl rfl ?_
    refine x_l 31 rfl rfl rfl ?_
    refine z_gf 34 (.ref 139) rfl ⟨rfl, rfl, rfl⟩ rfl rfl ?_
    refine x_l 35 rfl rfl rfl ?_
    refine x_l 36 rfl rfl rfl ?_
    have h1 := h.1
    have h := h.2
    refine z_is 37 8 rfl ⟨rfl, rfl, rfl⟩ rfl h1 rfl ?_
    refine x_l 38 rfl rfl rfl ?_
    exact x_ri rfl (Or.inl rfl) h
  · have h := h.2 c
    refine z_k 22 (-1) rfl (by decide) rfl ?_
    exact x_ri rfl (Or.inl rfl) h

theorem bk_Mo_aim_0 {k : Nat} {pa pb : Nat} {ga : Nat → Nat} {I : pm_II} {J : pm_JJ} {Q : Option Value → pm_H → Prop} {x1 : Int32} {x2 : Int32} {x3 : Int32} (h : Px k 176 m_Mo_is 0 [.int x1, .int 0, .int 4000] [] (hp I J (pm_RT pa pb ga)) (fun r h' => h'.1 = 176 ∧ Px (k + 1) 176 m_Mo_aim 8 [.ref 120, .int x1, .int x2, .int x3] (r.toList ++ []) h' Q)) : Px (k + 1) 176 m_Mo_aim 0 [.ref 120, .int x1, .int x2, .int x3] [] (hp I J (pm_RT pa pb ga)) Q := by
  refine x_l 1 rfl rfl rfl ?_
  refine z_k 2 0 rfl (by decide) rfl ?_
  refine z_k 5 4000 rfl (by decide) rfl ?_
  exact z_cs (As := [.int x1, .int 0, .int 4000]) (rest := []) rfl at_Mo_is rfl rfl (Nat.le_of_ble_eq_true rfl) (Nat.le_of_ble_eq_true rfl) rfl h

theorem bk_Mo_aim_8 {k : Nat} {pa pb : Nat} {ga : Nat → Nat} {I : pm_II} {J : pm_JJ} {Q : Option Value → pm_H → Prop} {x1 : Int32} {x2 : Int32} {x3 : Int32} {s0 : Int32} (h : ((s0 = 0 → Q (some (.int (-1))) (hp I J (pm_RT pa pb ga))) ∧ (¬ (s0 = 0) → Px k 176 m_Mo_is 0 [.int x2, .int 0, .int 400] [] (hp I J (pm_RT pa pb ga)) (fun r h' => h'.1 = 176 ∧ Px (k + 1) 176 m_Mo_aim 19 [.ref 120, .int x1, .int x2, .int x3] (r.toList ++ []) h' Q)))) : Px (k + 1) 176 m_Mo_aim 8 [.ref 120, .int x1, .int x2, .int x3] [.int s0] (hp I J (pm_RT pa pb ga)) Q := by
  refine x_b 11 rfl rfl rfl (fun c => ?_) (fun c => ?_)
  · have h := h.1 c
    refine z_k 33 (-1) rfl (by decide) rfl ?_
    exact x_ri rfl (Or.inl rfl) h
  · have h := h.2 c
    refine x_l 12 rfl rfl rfl ?_
    refine z_k 13 0 rfl (by decide) rfl ?_
    refine z_k 16 400 rfl (by decide) rfl ?_
    exact z_cs (As := [.int x2, .int 0, .int 400]) (rest := []) rfl at_Mo_is rfl rfl (Nat.le_of_ble_eq_true rfl) (Nat.le_of_ble_eq_true rfl) rfl h

theorem bk_Mo_aim_19 {k : Nat} {pa pb : Nat} {ga : Nat → Nat} {I : pm_II} {J : pm_JJ} {Q : Option Value → pm_H → Prop} {x1 : Int32} {x2 : Int32} {x3 : Int32} {s0 : Int32} (h : ((s0 = 0 → Q (some (.int (-1))) (hp I J (pm_RT pa pb ga))) ∧ (¬ (s0 = 0) → Px k 176 m_Mo_is 0 [.int x3, .int 0, .int 99] [] (hp I J (pm_RT pa pb ga)) (fun r h' => h'.1 = 176 ∧ Px (k + 1) 176 m_Mo_aim 29 [.ref 120, .int x1, .int x2, .int x3] (r.toList ++ []) h' Q)))) : Px (k + 1) 176 m_Mo_aim 19 [.ref 120, .int x1, .int x2, .int x3] [.int s0] (hp I J (pm_RT pa pb ga)) Q := by
  refine x_b 22 rfl rfl rfl (fun c => ?_) (fun c => ?_)
  · have h := h.1 c
    refine z_k 33 (-1) rfl (by decide) rfl ?_
    exact x_ri rfl (Or.inl rfl) h
  · have h := h.2 c
    refine x_l 23 rfl rfl rfl ?_
    refine z_k 24 0 rfl (by decide) rfl ?_
    refine z_k 26 99 rfl (by decide) rfl ?_
    exact z_cs (As := [.int x3, .int 0, .int 99]) (rest := []) rfl at_Mo_is rfl rfl (Nat.le_of_ble_eq_true rfl) (Nat.le_of_ble_eq_true rfl) rfl h

theorem bk_Mo_aim_29 {k : Nat} {pa pb : Nat} {ga : Nat → Nat} {I : pm_II} {J : pm_JJ} {Q : Option Value → pm_H → Prop} {x1 : Int32} {x2 : Int32} {x3 : Int32} {s0 : Int32} (h : ((¬ s0 = 0 → Q (some (.int 1)) (hp (pm_up (pm_up (pm_up I 120 34 x1) 120 35 x2) 120 36 x3) J (pm_RT pa pb ga))) ∧ (¬ (¬ s0 = 0) → Q (some (.int (-1))) (hp I J (pm_RT pa pb ga))))) : Px (k + 1) 176 m_Mo_aim 29 [.ref 120, .int x1, .int x2, .int x3] [.int s0] (hp I J (pm_RT pa pb ga)) Q := by
  refine x_b 32 rfl rfl rfl (fun c => ?_) (fun c => ?_)
  · have h := h.1 c
    refine x_l 35 rfl rfl rfl ?_
    refine x_l 36 rfl rfl rfl ?_
    refine z_pi 39 rfl (Or.inl rfl) rfl (fun z => by cases z) ⟨rfl, rfl, rfl⟩ rfl ?_
    refine x_l 40 rfl rfl rfl ?_
    refine x_l 41 rfl rfl rfl ?_
    refine z_pi 44 rfl (Or.inl rfl) rfl (fun z => by cases z) ⟨rfl, rfl, rfl⟩ rfl ?_
    refine x_l 45 rfl rfl rfl ?_
    refine x_l 46 rfl rfl rfl ?_
    refine z_pi 49 rfl (Or.inl rfl) rfl (fun z => by cases z) ⟨rfl, rfl, rfl⟩ rfl ?_
    refine z_k 50 1 rfl (by decide) rfl ?_
    exact x_ri rfl (Or.inl rfl) h
  · have h := h.2 c
    refine z_k 33 (-1) rfl (by decide) rfl ?_
    exact x_ri rfl (Or.inl rfl) h

theorem bk_Mo_settled_0 {k : Nat} {pa pb : Nat} {ga : Nat → Nat} {I : pm_II} {J : pm_JJ} {Q : Option Value → pm_H → Prop} {x1 : Int32} (h : Px k 176 m_Mo_isZone 0 [.ref 120, .int x1] [] (hp I J (pm_RT pa pb ga)) (fun r h' => h'.1 = 176 ∧ Px (k + 1) 176 m_Mo_settled 5 [.ref 120, .int x1, .null, .null, .null, .null] (r.toList ++ []) h' Q)) : Px (k + 1) 176 m_Mo_settled 0 [.ref 120, .int x1, .null, .null, .null, .null] [] (hp I J (pm_RT pa pb ga)) Q := by
  refine x_l 1 rfl rfl rfl ?_
  refine x_l 2 rfl rfl rfl ?_
  exact z_cv (As := [.int x1]) (rest := []) (b := 120) rfl at_Mo_isZone rfl rfl (Nat.le_of_ble_eq_true rfl) (Nat.le_of_ble_eq_true rfl) ⟨rfl, rfl, rfl⟩ (by decide) rfl h

theorem bk_Mo_settled_5 {k : Nat} {pa pb : Nat} {ga : Nat → Nat} {I : pm_II} {J : pm_JJ} {Q : Option Value → pm_H → Prop} {x1 : Int32} {s0 : Int32} (h : ((¬ s0 = 0 → vp_in x1 8 ∧ ((¬ (I 140 ((x1 : Int32).toNatClampNeg)) = 0 → Px (k + 1) 176 m_Mo_settled 23 [.ref 120, .int x1, .int 0, .null, .null, .null] [] (hp I J (pm_RT pa pb ga)) Q) ∧ (¬ (¬ (I 140 ((x1 : Int32).toNatClampNeg)) = 0) → Q (some (.int 0)) (hp I J (pm_RT pa pb ga))))) ∧ (¬ (¬ s0 = 0) → Q (some (.int (-1))) (hp I J (pm_RT pa pb ga))))) : Px (k + 1) 176 m_Mo_settled 5 [.ref 120, .int x1, .null, .null, .null, .null] [.int s0] (hp I J (pm_RT pa pb ga)) Q := by
  refine x_b 8 rfl rfl rfl (fun c => ?_) (fun c => ?_)
  · have h := h.1 c
    refine x_l 11 rfl rfl rfl ?_
    refine z_gf 14 (.ref 140) rfl ⟨rfl, rfl, rfl⟩ rfl rfl ?_
    refine x_l 15 rfl rfl rfl ?_
    have h1 := h.1
    have h := h.2
    refine z_il 16 8 rfl ⟨rfl, rfl, rfl⟩ rfl h1 rfl ?_
    refine x_b 19 rfl rfl rfl (fun c => ?_) (fun c => ?_)
    · have h := h.1 c
      refine z_k 22 0 rfl (by decide) rfl ?_
      refine x_t 23 rfl rfl rfl ?_
      exact h
    · have h := h.2 c
      refine z_k 20 0 rfl (by decide) rfl ?_
      exact x_ri rfl (Or.inl rfl) h
  · have h := h.2 c
    refine z_k 9 (-1) rfl (by decide) rfl ?_
    exact x_ri rfl (Or.inl rfl) h

theorem bk_Mo_settled_23 {k : Nat} {pa pb : Nat} {ga : Nat → Nat} {I : pm_II} {J : pm_JJ} {Q : Option Value → pm_H → Prop} {x1 : Int32} {x2 : Int32} (h : ((256 ≤ x2 → Q (some (.int 255)) (hp I J (pm_RT pa pb ga))) ∧ (¬ (256 ≤ x2) → Px (k + 1) 176 m_Mo_settled 45 [.ref 120, .int x1, .int x2, .long (Int64.ofNat 0), .null, .int 0] [] (hp I (pm_up (pm_up J 120 46 (Int64.ofNat 0)) 120 47 (Int64.ofNat 0)) (pm_RT pa pb ga)) Q))) : Px (k + 1) 176 m_Mo_settled 23 [.ref 120, .int x1, .int x2, .null, .null, .null] [] (hp I J (pm_RT pa pb ga)) Q := by
  refine x_l 24 rfl rfl rfl ?_
  refine z_k 27 256 rfl (by decide) rfl ?_
  refine x_b 30 rfl rfl rfl (fun c => ?_) (fun c => ?_)
  · have h := h.1 c
    refine z_k 86 255 rfl (by decide) rfl ?_
    exact x_ri rfl (Or.inl rfl) h
  · have h := h.2 c
    refine x_l 31 rfl rfl rfl ?_
    refine x_s 32 rfl rfl rfl ?_
    refine z_pj 35 rfl rfl ⟨rfl, rfl, rfl⟩ rfl ?_
    refine x_l 36 rfl rfl rfl ?_
    refine x_s 37 rfl rfl rfl ?_
    refine z_pj 40 rfl rfl ⟨rfl, rfl, rfl⟩ rfl ?_
    refine x_s 41 rfl rfl rfl ?_
    refine x_t 42 rfl rfl rfl ?_
    refine z_k 43 0 rfl (by decide) rfl ?_
    refine x_t 45 rfl rfl rfl ?_
    exact h

theorem bk_Mo_settled_45 {k : Nat} {pa pb : Nat} {ga : Nat → Nat} {I : pm_II} {J : pm_JJ} {Q : Option Value → pm_H → Prop} {x1 : Int32} {x2 : Int32} {y3 : Int64} {x5 : Int32} (h : ((40 ≤ x5 → (((lg_cmp y3 (((I 120 34) : Int32).toInt64)) < 0 → Px (k + 1) 176 m_Mo_settled 23 [.ref 120, .int x1, .int (x2 + Int32.ofInt 1), .long y3, .null, .int x5] [] (hp I J (pm_RT pa pb ga)) Q) ∧ (¬ ((lg_cmp y3 (((I 120 34) : Int32).toInt64)) < 0) → Q (some (.int x2)) (hp I J (pm_RT pa pb ga))))) ∧ (¬ (40 ≤ x5) → Px k 176 m_Mo_inked 0 [.ref 120, .int x2, .int x1, .null, .null, .null, .null] [] (hp I J (pm_RT pa pb ga)) (fun r h' => h'.1 = 176 ∧ Px (k + 1) 176 m_Mo_settled 58 [.ref 120, .int x1, .int x2, .long y3, .null, .int x5] (r.toList ++ []) h' Q)))) : Px (k + 1) 176 m_Mo_settled 45 [.ref 120, .int x1, .int x2, .long y3, .null, .int x5] [] (hp I J (pm_RT pa pb ga)) Q := by
  refine x_l 47 rfl rfl rfl ?_
  refine z_k 49 40 rfl (by decide) rfl ?_
  refine x_b 52 rfl rfl rfl (fun c => ?_) (fun c => ?_)
  · have h := h.1 c
    refine x_l 66 rfl rfl rfl ?_
    refine x_l 67 rfl rfl rfl ?_
    refine z_gf 70 (.int (I 120 34)) rfl ⟨rfl, rfl, rfl⟩ rfl rfl ?_
    refine x_s 71 rfl rfl rfl ?_
    refine x_lc 72 rfl rfl ?_
    refine x_b 75 rfl rfl rfl (fun c => ?_) (fun c => ?_)
    · have h := h.1 c
      refine x_t 80 rfl rfl rfl ?_
      refine x_g rfl ?_
      exact h
    · have h := h.2 c
      refine x_l 76 rfl rfl rfl ?_
      exact x_ri rfl (Or.inl rfl) h
  · have h := h.2 c
    refine x_l 53 rfl rfl rfl ?_
    refine x_l 54 rfl rfl rfl ?_
    refine x_l 55 rfl rfl rfl ?_
    exact z_cv (As := [.int x2, .int x1]) (rest := []) (b := 120) rfl at_Mo_inked rfl rfl (Nat.le_of_ble_eq_true rfl) (Nat.le_of_ble_eq_true rfl) ⟨rfl, rfl, rfl⟩ (by decide) rfl h

theorem bk_Mo_settled_58 {k : Nat} {pa pb : Nat} {ga : Nat → Nat} {I : pm_II} {J : pm_JJ} {Q : Option Value → pm_H → Prop} {x1 : Int32} {x2 : Int32} {y3 : Int64} {x5 : Int32} {w0 : Int64} (h : Px (k + 1) 176 m_Mo_settled 45 [.ref 120, .int x1, .int x2, .long w0, .null, .int (x5 + Int32.ofInt 1)] [] (hp I J (pm_RT pa pb ga)) Q) : Px (k + 1) 176 m_Mo_settled 58 [.ref 120, .int x1, .int x2, .long y3, .null, .int x5] [.long w0] (hp I J (pm_RT pa pb ga)) Q := by
  refine x_t 59 rfl rfl rfl ?_
  refine x_t 62 rfl rfl rfl ?_
  refine x_g rfl ?_
  exact h

theorem bk_Mo_isZone_0 {k : Nat} {pa pb : Nat} {ga : Nat → Nat} {I : pm_II} {J : pm_JJ} {Q : Option Value → pm_H → Prop} {x1 : Int32} (h : Px k 176 m_Mo_is 0 [.int x1, .int 0, .int ((I 120 32) - (1 : Int32))] [] (hp I J (pm_RT pa pb ga)) (fun r h' => h'.1 = 176 ∧ Px (k + 1) 176 m_Mo_isZone 11 [.ref 120, .int x1] (r.toList ++ []) h' Q)) : Px (k + 1) 176 m_Mo_isZone 0 [.ref 120, .int x1] [] (hp I J (pm_RT pa pb ga)) Q := by
  refine x_l 1 rfl rfl rfl ?_
  refine z_k 2 0 rfl (by decide) rfl ?_
  refine x_l 3 rfl rfl rfl ?_
  refine z_gf 6 (.int (I 120 32)) rfl ⟨rfl, rfl, rfl⟩ rfl rfl ?_
  refine z_k 7 1 rfl (by decide) rfl ?_
  refine x_s 8 rfl rfl rfl ?_
  exact z_cs (As := [.int x1, .int 0, .int ((I 120 32) - (1 : Int32))]) (rest := []) rfl at_Mo_is rfl rfl (Nat.le_of_ble_eq_true rfl) (Nat.le_of_ble_eq_true rfl) rfl h

theorem bk_Mo_isZone_11 {k : Nat} {pa pb : Nat} {ga : Nat → Nat} {I : pm_II} {J : pm_JJ} {Q : Option Value → pm_H → Prop} {x1 : Int32} {s0 : Int32} (h : (s0 = 0 ∨ s0 = 1) ∧ Q (some (.int s0)) (hp I J (pm_RT pa pb ga))) : Px (k + 1) 176 m_Mo_isZone 11 [.ref 120, .int x1] [.int s0] (hp I J (pm_RT pa pb ga)) Q := by
  exact x_ri rfl (Or.inr ⟨rfl, h.1⟩) h.2
