theorem bk_Mo_letters_0 {k : Nat} {pa pb : Nat} {ga : Nat → Nat} {I : pm_II} {J : pm_JJ} {Q : Option Value → pm_H → Prop} (h : Px k 176 m_Mo_take 0 [.ref 120, .null] [] (hp I J (pm_RT pa pb ga)) (fun r h' => h'.1 = 176 ∧ Px (k + 1) 176 m_Mo_letters 4 [.ref 120, .null, .null, .null, .null, .null, .null] (r.toList ++ []) h' Q)) : Px (k + 1) 176 m_Mo_letters 0 [.ref 120, .null, .null, .null, .null, .null, .null] [] (hp I J (pm_RT pa pb ga)) Q := by
  refine x_l 1 rfl rfl rfl ?_
  exact z_cv (As := []) (rest := []) (b := 120) rfl at_Mo_take rfl rfl (Nat.le_of_ble_eq_true rfl) (Nat.le_of_ble_eq_true rfl) ⟨rfl, rfl, rfl⟩ (by decide) rfl h

theorem bk_Mo_letters_4 {k : Nat} {pa pb : Nat} {ga : Nat → Nat} {I : pm_II} {J : pm_JJ} {Q : Option Value → pm_H → Prop} (h : Px (k + 1) 176 m_Mo_letters 14 [.ref 120, .int 0, .null, .null, .null, .null, .null] [] (hp (pm_up I 120 74 (I 120 73)) J (pm_RT pa pb ga)) Q) : Px (k + 1) 176 m_Mo_letters 4 [.ref 120, .null, .null, .null, .null, .null, .null] [] (hp I J (pm_RT pa pb ga)) Q := by
  refine z_k 5 0 rfl (by decide) rfl ?_
  refine x_t 6 rfl rfl rfl ?_
  refine x_l 7 rfl rfl rfl ?_
  refine x_l 8 rfl rfl rfl ?_
  refine z_gf 11 (.int (I 120 73)) rfl ⟨rfl, rfl, rfl⟩ rfl rfl ?_
  refine z_pi 14 rfl (Or.inl rfl) rfl (fun z => by cases z) ⟨rfl, rfl, rfl⟩ rfl ?_
  exact h

theorem bk_Mo_letters_14 {k : Nat} {pa pb : Nat} {ga : Nat → Nat} {I : pm_II} {J : pm_JJ} {Q : Option Value → pm_H → Prop} {x1 : Int32} (h : Px k 176 m_Mo_bad 0 [.ref 120] [] (hp I J (pm_RT pa pb ga)) (fun r h' => h'.1 = 176 ∧ Px (k + 1) 176 m_Mo_letters 18 [.ref 120, .int x1, .null, .null, .null, .null, .null] (r.toList ++ []) h' Q)) : Px (k + 1) 176 m_Mo_letters 14 [.ref 120, .int x1, .null, .null, .null, .null, .null] [] (hp I J (pm_RT pa pb ga)) Q := by
  refine x_l 15 rfl rfl rfl ?_
  exact z_cv (As := []) (rest := []) (b := 120) rfl at_Mo_bad rfl rfl (Nat.le_of_ble_eq_true rfl) (Nat.le_of_ble_eq_true rfl) ⟨rfl, rfl, rfl⟩ (by decide) rfl h

theorem bk_Mo_letters_18 {k : Nat} {pa pb : Nat} {ga : Nat → Nat} {I : pm_II} {J : pm_JJ} {Q : Option Value → pm_H → Prop} {x1 : Int32} {s0 : Int32} (h : ((¬ s0 = 0 → Px (k + 1) 176 m_Mo_letters 240 [.ref 120, .int x1, .null, .null, .null, .null, .null] [] (hp I J (pm_RT pa pb ga)) Q) ∧ (¬ (¬ s0 = 0) → (((I 120 4) < (I 120 3) → Px (k + 1) 176 m_Mo_letters 36 [.ref 120, .int x1, .null, .null, .null, .null, .null] [] (hp I J (pm_RT pa pb ga)) Q) ∧ (¬ ((I 120 4) < (I 120 3)) → ((¬ x1 = 0 → Px (k + 1) 176 m_Mo_letters 240 [.ref 120, .int x1, .null, .null, .null, .null, .null] [] (hp I J (pm_RT pa pb ga)) Q) ∧ (¬ (¬ x1 = 0) → Px (k + 1) 176 m_Mo_letters 36 [.ref 120, .int x1, .null, .null, .null, .null, .null] [] (hp I J (pm_RT pa pb ga)) Q))))))) : Px (k + 1) 176 m_Mo_letters 18 [.ref 120, .int x1, .null, .null, .null, .null, .null] [.int s0] (hp I J (pm_RT pa pb ga)) Q := by
  refine x_b 21 rfl rfl rfl (fun c => ?_) (fun c => ?_)
  · have h := h.1 c
    exact h
  · have h := h.2 c
    refine x_l 22 rfl rfl rfl ?_
    refine z_gf 25 (.int (I 120 4)) rfl ⟨rfl, rfl, rfl⟩ rfl rfl ?_
    refine x_l 26 rfl rfl rfl ?_
    refine z_gf 29 (.int (I 120 3)) rfl ⟨rfl, rfl, rfl⟩ rfl rfl ?_
    refine x_b 32 rfl rfl rfl (fun c => ?_) (fun c => ?_)
    · have h := h.1 c
      exact h
    · have h := h.2 c
      refine x_l 33 rfl rfl rfl ?_
      refine x_b 36 rfl rfl rfl (fun c => ?_) (fun c => ?_)
      · have h := h.1 c
        exact h
      · have h := h.2 c
        exact h

theorem bk_Mo_letters_36 {k : Nat} {pa pb : Nat} {ga : Nat → Nat} {I : pm_II} {J : pm_JJ} {Q : Option Value → pm_H → Prop} {x1 : Int32} (h : ((¬ x1 = 40 → Px (k + 1) 176 m_Mo_letters 50 [.ref 120, .int x1, .null, .null, .null, .null, .null] [] (hp I J (pm_RT pa pb ga)) Q) ∧ (¬ (¬ x1 = 40) → Px k 176 m_Mo_fail 0 [.ref 120, .int (I 120 4)] [] (hp I J (pm_RT pa pb ga)) (fun r h' => h'.1 = 176 ∧ Px (k + 1) 176 m_Mo_letters 50 [.ref 120, .int x1, .null, .null, .null, .null, .null] (r.toList ++ []) h' Q)))) : Px (k + 1) 176 m_Mo_letters 36 [.ref 120, .int x1, .null, .null, .null, .null, .null] [] (hp I J (pm_RT pa pb ga)) Q := by
  refine x_l 37 rfl rfl rfl ?_
  refine z_k 39 40 rfl (by decide) rfl ?_
  refine x_b 42 rfl rfl rfl (fun c => ?_) (fun c => ?_)
  · have h := h.1 c
    exact h
  · have h := h.2 c
    refine x_l 43 rfl rfl rfl ?_
    refine x_l 44 rfl rfl rfl ?_
    refine z_gf 47 (.int (I 120 4)) rfl ⟨rfl, rfl, rfl⟩ rfl rfl ?_
    exact z_cv (As := [.int (I 120 4)]) (rest := []) (b := 120) rfl at_Mo_fail rfl rfl (Nat.le_of_ble_eq_true rfl) (Nat.le_of_ble_eq_true rfl) ⟨rfl, rfl, rfl⟩ (by decide) rfl h

theorem bk_Mo_letters_50 {k : Nat} {pa pb : Nat} {ga : Nat → Nat} {I : pm_II} {J : pm_JJ} {Q : Option Value → pm_H → Prop} {x1 : Int32} (h : Px (k + 1) 176 m_Mo_letters 54 [.ref 120, .int x1, .int 0, .int 0, .null, .null, .null] [] (hp I J (pm_RT pa pb ga)) Q) : Px (k + 1) 176 m_Mo_letters 50 [.ref 120, .int x1, .null, .null, .null, .null, .null] [] (hp I J (pm_RT pa pb ga)) Q := by
  refine z_k 51 0 rfl (by decide) rfl ?_
  refine x_t 52 rfl rfl rfl ?_
  refine z_k 53 0 rfl (by decide) rfl ?_
  refine x_t 54 rfl rfl rfl ?_
  exact h

theorem bk_Mo_letters_54 {k : Nat} {pa pb : Nat} {ga : Nat → Nat} {I : pm_II} {J : pm_JJ} {Q : Option Value → pm_H → Prop} {x1 : Int32} {x2 : Int32} {x3 : Int32} (h : ((5 ≤ x3 → Px (k + 1) 176 m_Mo_letters 113 [.ref 120, .int x1, .int x2, .int x3, .null, .null, .null] [] (hp I J (pm_RT pa pb ga)) Q) ∧ (¬ (5 ≤ x3) → Px k 176 m_Mo_bad 0 [.ref 120] [] (hp I J (pm_RT pa pb ga)) (fun r h' => h'.1 = 176 ∧ Px (k + 1) 176 m_Mo_letters 63 [.ref 120, .int x1, .int x2, .int x3, .null, .null, .null] (r.toList ++ []) h' Q)))) : Px (k + 1) 176 m_Mo_letters 54 [.ref 120, .int x1, .int x2, .int x3, .null, .null, .null] [] (hp I J (pm_RT pa pb ga)) Q := by
  refine x_l 55 rfl rfl rfl ?_
  refine z_k 56 5 rfl (by decide) rfl ?_
  refine x_b 59 rfl rfl rfl (fun c => ?_) (fun c => ?_)
  · have h := h.1 c
    exact h
  · have h := h.2 c
    refine x_l 60 rfl rfl rfl ?_
    exact z_cv (As := []) (rest := []) (b := 120) rfl at_Mo_bad rfl rfl (Nat.le_of_ble_eq_true rfl) (Nat.le_of_ble_eq_true rfl) ⟨rfl, rfl, rfl⟩ (by decide) rfl h

theorem bk_Mo_letters_63 {k : Nat} {pa pb : Nat} {ga : Nat → Nat} {I : pm_II} {J : pm_JJ} {Q : Option Value → pm_H → Prop} {x1 : Int32} {x2 : Int32} {x3 : Int32} {s0 : Int32} (h : ((¬ s0 = 0 → Px (k + 1) 176 m_Mo_letters 113 [.ref 120, .int x1, .int x2, .int x3, .null, .null, .null] [] (hp I J (pm_RT pa pb ga)) Q) ∧ (¬ (¬ s0 = 0) → Px k 176 m_Mo_here 0 [.ref 120] [] (hp I J (pm_RT pa pb ga)) (fun r h' => h'.1 = 176 ∧ Px (k + 1) 176 m_Mo_letters 70 [.ref 120, .int x1, .int x2, .int x3, .null, .null, .null] (r.toList ++ []) h' Q)))) : Px (k + 1) 176 m_Mo_letters 63 [.ref 120, .int x1, .int x2, .int x3, .null, .null, .null] [.int s0] (hp I J (pm_RT pa pb ga)) Q := by
  refine x_b 66 rfl rfl rfl (fun c => ?_) (fun c => ?_)
  · have h := h.1 c
    exact h
  · have h := h.2 c
    refine x_l 67 rfl rfl rfl ?_
    exact z_cv (As := []) (rest := []) (b := 120) rfl at_Mo_here rfl rfl (Nat.le_of_ble_eq_true rfl) (Nat.le_of_ble_eq_true rfl) ⟨rfl, rfl, rfl⟩ (by decide) rfl h

theorem bk_Mo_letters_70 {k : Nat} {pa pb : Nat} {ga : Nat → Nat} {I : pm_II} {J : pm_JJ} {Q : Option Value → pm_H → Prop} {x1 : Int32} {x2 : Int32} {x3 : Int32} {s0 : Int32} (h : Px k 176 m_Mo_isDigit 0 [.int s0] [] (hp I J (pm_RT pa pb ga)) (fun r h' => h'.1 = 176 ∧ Px (k + 1) 176 m_Mo_letters 73 [.ref 120, .int x1, .int x2, .int x3, .null, .null, .null] (r.toList ++ []) h' Q)) : Px (k + 1) 176 m_Mo_letters 70 [.ref 120, .int x1, .int x2, .int x3, .null, .null, .null] [.int s0] (hp I J (pm_RT pa pb ga)) Q := by
  exact z_cs (As := [.int s0]) (rest := []) rfl at_Mo_isDigit rfl rfl (Nat.le_of_ble_eq_true rfl) (Nat.le_of_ble_eq_true rfl) rfl h

theorem bk_Mo_letters_73 {k : Nat} {pa pb : Nat} {ga : Nat → Nat} {I : pm_II} {J : pm_JJ} {Q : Option Value → pm_H → Prop} {x1 : Int32} {x2 : Int32} {x3 : Int32} {s0 : Int32} (h : ((¬ s0 = 0 → Px (k + 1) 176 m_Mo_letters 84 [.ref 120, .int x1, .int x2, .int x3, .null, .null, .null] [] (hp I J (pm_RT pa pb ga)) Q) ∧ (¬ (¬ s0 = 0) → Px k 176 m_Mo_fail 0 [.ref 120, .int (I 120 4)] [] (hp I J (pm_RT pa pb ga)) (fun r h' => h'.1 = 176 ∧ Px (k + 1) 176 m_Mo_letters 84 [.ref 120, .int x1, .int x2, .int x3, .null, .null, .null] (r.toList ++ []) h' Q)))) : Px (k + 1) 176 m_Mo_letters 73 [.ref 120, .int x1, .int x2, .int x3, .null, .null, .null] [.int s0] (hp I J (pm_RT pa pb ga)) Q := by
  refine x_b 76 rfl rfl rfl (fun c => ?_) (fun c => ?_)
  · have h := h.1 c
    exact h
  · have h := h.2 c
    refine x_l 77 rfl rfl rfl ?_
    refine x_l 78 rfl rfl rfl ?_
    refine z_gf 81 (.int (I 120 4)) rfl ⟨rfl, rfl, rfl⟩ rfl rfl ?_
    exact z_cv (As := [.int (I 120 4)]) (rest := []) (b := 120) rfl at_Mo_fail rfl rfl (Nat.le_of_ble_eq_true rfl) (Nat.le_of_ble_eq_true rfl) ⟨rfl, rfl, rfl⟩ (by decide) rfl h

theorem bk_Mo_letters_84 {k : Nat} {pa pb : Nat} {ga : Nat → Nat} {I : pm_II} {J : pm_JJ} {Q : Option Value → pm_H → Prop} {x1 : Int32} {x2 : Int32} {x3 : Int32} (h : Px k 176 m_Mo_here 0 [.ref 120] [] (hp I J (pm_RT pa pb ga)) (fun r h' => h'.1 = 176 ∧ Px (k + 1) 176 m_Mo_letters 92 [.ref 120, .int x1, .int x2, .int x3, .null, .null, .null] (r.toList ++ [.int ((10 : Int32) * x2)]) h' Q)) : Px (k + 1) 176 m_Mo_letters 84 [.ref 120, .int x1, .int x2, .int x3, .null, .null, .null] [] (hp I J (pm_RT pa pb ga)) Q := by
  refine z_k 86 10 rfl (by decide) rfl ?_
  refine x_l 87 rfl rfl rfl ?_
  refine x_s 88 rfl rfl rfl ?_
  refine x_l 89 rfl rfl rfl ?_
  exact z_cv (As := []) (rest := [.int ((10 : Int32) * x2)]) (b := 120) rfl at_Mo_here rfl rfl (Nat.le_of_ble_eq_true rfl) (Nat.le_of_ble_eq_true rfl) ⟨rfl, rfl, rfl⟩ (by decide) rfl h

theorem bk_Mo_letters_92 {k : Nat} {pa pb : Nat} {ga : Nat → Nat} {I : pm_II} {J : pm_JJ} {Q : Option Value → pm_H → Prop} {x1 : Int32} {x2 : Int32} {x3 : Int32} {s0 : Int32} {s1 : Int32} (h : Px (k + 1) 176 m_Mo_letters 54 [.ref 120, .int x1, .int ((s0 + s1) - (48 : Int32)), .int (x3 + Int32.ofInt 1), .null, .null, .null] [] (hp (pm_up I 120 4 ((I 120 4) + (1 : Int32))) J (pm_RT pa pb ga)) Q) : Px (k + 1) 176 m_Mo_letters 92 [.ref 120, .int x1, .int x2, .int x3, .null, .null, .null] [.int s1, .int s0] (hp I J (pm_RT pa pb ga)) Q := by
  refine x_s 93 rfl rfl rfl ?_
  refine z_k 95 48 rfl (by decide) rfl ?_
  refine x_s 96 rfl rfl rfl ?_
  refine x_t 97 rfl rfl rfl ?_
  refine x_l 98 rfl rfl rfl ?_
  refine x_s 99 rfl rfl rfl ?_
  refine z_gf 102 (.int (I 120 4)) rfl ⟨rfl, rfl, rfl⟩ rfl rfl ?_
  refine z_k 103 1 rfl (by decide) rfl ?_
  refine x_s 104 rfl rfl rfl ?_
  refine z_pi 107 rfl (Or.inl rfl) rfl (fun z => by cases z) ⟨rfl, rfl, rfl⟩ rfl ?_
  refine x_t 110 rfl rfl rfl ?_
  refine x_g rfl ?_
  exact h

theorem bk_Mo_letters_113 {k : Nat} {pa pb : Nat} {ga : Nat → Nat} {I : pm_II} {J : pm_JJ} {Q : Option Value → pm_H → Prop} {x1 : Int32} {x2 : Int32} {x3 : Int32} (h : Px k 176 m_Mo_need 0 [.ref 120, .int 32] [] (hp I J (pm_RT pa pb ga)) (fun r h' => h'.1 = 176 ∧ Px (k + 1) 176 m_Mo_letters 119 [.ref 120, .int x1, .int x2, .int x3, .null, .null, .null] (r.toList ++ []) h' Q)) : Px (k + 1) 176 m_Mo_letters 113 [.ref 120, .int x1, .int x2, .int x3, .null, .null, .null] [] (hp I J (pm_RT pa pb ga)) Q := by
  refine x_l 114 rfl rfl rfl ?_
  refine z_k 116 32 rfl (by decide) rfl ?_
  exact z_cv (As := [.int 32]) (rest := []) (b := 120) rfl at_Mo_need rfl rfl (Nat.le_of_ble_eq_true rfl) (Nat.le_of_ble_eq_true rfl) ⟨rfl, rfl, rfl⟩ (by decide) rfl h

theorem bk_Mo_letters_119 {k : Nat} {pa pb : Nat} {ga : Nat → Nat} {I : pm_II} {J : pm_JJ} {Q : Option Value → pm_H → Prop} {x1 : Int32} {x2 : Int32} {x3 : Int32} (h : Px k 176 m_Mo_nameHere 0 [.ref 120, .null, .null, .null] [] (hp I J (pm_RT pa pb ga)) (fun r h' => h'.1 = 176 ∧ Px (k + 1) 176 m_Mo_letters 123 [.ref 120, .int x1, .int x2, .int x3, .null, .null, .null] (r.toList ++ []) h' Q)) : Px (k + 1) 176 m_Mo_letters 119 [.ref 120, .int x1, .int x2, .int x3, .null, .null, .null] [] (hp I J (pm_RT pa pb ga)) Q := by
  refine x_l 120 rfl rfl rfl ?_
  exact z_cv (As := []) (rest := []) (b := 120) rfl at_Mo_nameHere rfl rfl (Nat.le_of_ble_eq_true rfl) (Nat.le_of_ble_eq_true rfl) ⟨rfl, rfl, rfl⟩ (by decide) rfl h

theorem bk_Mo_letters_123 {k : Nat} {pa pb : Nat} {ga : Nat → Nat} {I : pm_II} {J : pm_JJ} {Q : Option Value → pm_H → Prop} {x1 : Int32} {x2 : Int32} {x3 : Int32} {w0 : Int64} (h : Px k 176 m_Mo_need 0 [.ref 120, .int 10] [] (hp I J (pm_RT pa pb ga)) (fun r h' => h'.1 = 176 ∧ Px (k + 1) 176 m_Mo_letters 130 [.ref 120, .int x1, .int x2, .long w0, .null, .null, .null] (r.toList ++ []) h' Q)) : Px (k + 1) 176 m_Mo_letters 123 [.ref 120, .int x1, .int x2, .int x3, .null, .null, .null] [.long w0] (hp I J (pm_RT pa pb ga)) Q := by
  refine x_t 124 rfl rfl rfl ?_
  refine x_l 125 rfl rfl rfl ?_
  refine z_k 127 10 rfl (by decide) rfl ?_
  exact z_cv (As := [.int 10]) (rest := []) (b := 120) rfl at_Mo_need rfl rfl (Nat.le_of_ble_eq_true rfl) (Nat.le_of_ble_eq_true rfl) ⟨rfl, rfl, rfl⟩ (by decide) rfl h

theorem bk_Mo_letters_130 {k : Nat} {pa pb : Nat} {ga : Nat → Nat} {I : pm_II} {J : pm_JJ} {Q : Option Value → pm_H → Prop} {x1 : Int32} {x2 : Int32} {y3 : Int64} (h : Px k 176 m_Mo_bad 0 [.ref 120] [] (hp I J (pm_RT pa pb ga)) (fun r h' => h'.1 = 176 ∧ Px (k + 1) 176 m_Mo_letters 134 [.ref 120, .int x1, .int x2, .long y3, .null, .null, .null] (r.toList ++ []) h' Q)) : Px (k + 1) 176 m_Mo_letters 130 [.ref 120, .int x1, .int x2, .long y3, .null, .null, .null] [] (hp I J (pm_RT pa pb ga)) Q := by
  refine x_l 131 rfl rfl rfl ?_
  exact z_cv (As := []) (rest := []) (b := 120) rfl at_Mo_bad rfl rfl (Nat.le_of_ble_eq_true rfl) (Nat.le_of_ble_eq_true rfl) ⟨rfl, rfl, rfl⟩ (by decide) rfl h

theorem bk_Mo_letters_134 {k : Nat} {pa pb : Nat} {ga : Nat → Nat} {I : pm_II} {J : pm_JJ} {Q : Option Value → pm_H → Prop} {x1 : Int32} {x2 : Int32} {y3 : Int64} {s0 : Int32} (h : ((s0 = 0 → Px (k + 1) 176 m_Mo_letters 149 [.ref 120, .int (x1 + Int32.ofInt 1), .int x2, .long y3, .null, .int 0, .int 0] [] (hp I J (pm_RT pa pb ga)) Q) ∧ (¬ (s0 = 0) → Px (k + 1) 176 m_Mo_letters 14 [.ref 120, .int x1, .int x2, .long y3, .null, .null, .null] [] (hp I J (pm_RT pa pb ga)) Q))) : Px (k + 1) 176 m_Mo_letters 134 [.ref 120, .int x1, .int x2, .long y3, .null, .null, .null] [.int s0] (hp I J (pm_RT pa pb ga)) Q := by
  refine x_b 137 rfl rfl rfl (fun c => ?_) (fun c => ?_)
  · have h := h.1 c
    refine x_t 143 rfl rfl rfl ?_
    refine z_k 144 0 rfl (by decide) rfl ?_
    refine x_t 146 rfl rfl rfl ?_
    refine z_k 147 0 rfl (by decide) rfl ?_
    refine x_t 149 rfl rfl rfl ?_
    exact h
  · have h := h.2 c
    refine x_g rfl ?_
    exact h

theorem bk_Mo_letters_149 {k : Nat} {pa pb : Nat} {ga : Nat → Nat} {I : pm_II} {J : pm_JJ} {Q : Option Value → pm_H → Prop} {x1 : Int32} {x2 : Int32} {y3 : Int64} {x5 : Int32} {x6 : Int32} (h : (((I 120 74) ≤ x6 → ((x5 = 0 → vp_in (I 120 74) 161 ∧ vp_in (I 120 74) 161 ∧ Px (k + 1) 176 m_Mo_letters 14 [.ref 120, .int x1, .int x2, .long y3, .null, .int x5, .int x6] [] (hp (pm_up (pm_up I 162 (((I 120 74) : Int32).toNatClampNeg) x2) 120 74 ((I 120 74) + (1 : Int32))) (pm_up J 168 (((I 120 74) : Int32).toNatClampNeg) y3) (pm_RT pa pb ga)) Q) ∧ (¬ (x5 = 0) → Px (k + 1) 176 m_Mo_letters 14 [.ref 120, .int x1, .int x2, .long y3, .null, .int x5, .int x6] [] (hp I J (pm_RT pa pb ga)) Q))) ∧ (¬ ((I 120 74) ≤ x6) → ((¬ x5 = 0 → Px (k + 1) 176 m_Mo_letters 149 [.ref 120, .int x1, .int x2, .long y3, .null, .int 1, .int (x6 + Int32.ofInt 1)] [] (hp I J (pm_RT pa pb ga)) Q) ∧ (¬ (¬ x5 = 0) → vp_in x6 161 ∧ ((¬ (I 162 ((x6 : Int32).toNatClampNeg)) = x2 → Px (k + 1) 176 m_Mo_letters 149 [.ref 120, .int x1, .int x2, .long y3, .null, .int 0, .int (x6 + Int32.ofInt 1)] [] (hp I J (pm_RT pa pb ga)) Q) ∧ (¬ (¬ (I 162 ((x6 : Int32).toNatClampNeg)) = x2) → vp_in x6 161 ∧ ((¬ (lg_cmp (J 168 ((x6 : Int32).toNatClampNeg)) y3) = 0 → Px (k + 1) 176 m_Mo_letters 149 [.ref 120, .int x1, .int x2, .long y3, .null, .int 0, .int (x6 + Int32.ofInt 1)] [] (hp I J (pm_RT pa pb ga)) Q) ∧ (¬ (¬ (lg_cmp (J 168 ((x6 : Int32).toNatClampNeg)) y3) = 0) → Px (k + 1) 176 m_Mo_letters 149 [.ref 120, .int x1, .int x2, .long y3, .null, .int 1, .int (x6 + Int32.ofInt 1)] [] (hp I J (pm_RT pa pb ga)) Q))))))))) : Px (k + 1) 176 m_Mo_letters 149 [.ref 120, .int x1, .int x2, .long y3, .null, .int x5, .int x6] [] (hp I J (pm_RT pa pb ga)) Q := by
  refine x_l 151 rfl rfl rfl ?_
  refine x_l 152 rfl rfl rfl ?_
  refine z_gf 155 (.int (I 120 74)) rfl ⟨rfl, rfl, rfl⟩ rfl rfl ?_
  refine x_b 158 rfl rfl rfl (fun c => ?_) (fun c => ?_)
  · have h := h.1 c
    refine x_l 201 rfl rfl rfl ?_
    refine x_b 204 rfl rfl rfl (fun c => ?_) (fun c => ?_)
    · have h := h.1 c
      refine x_l 208 rfl rfl rfl ?_
      refine z_gf 211 (.ref 162) rfl ⟨rfl, rfl, rfl⟩ rfl rfl ?_
      refine x_l 212 rfl rfl rfl ?_
      refine z_gf 215 (.int (I 120 74)) rfl ⟨rfl, rfl, rfl⟩ rfl rfl ?_
      refine x_l 216 rfl rfl rfl ?_
      have h1 := h.1
      have h := h.2
      refine z_is 217 161 rfl ⟨rfl, rfl, rfl⟩ rfl h1 rfl ?_
      refine x_l 218 rfl rfl rfl ?_
      refine z_gf 221 (.ref 168) rfl ⟨rfl, rfl, rfl⟩ rfl rfl ?_
      refine x_l 222 rfl rfl rfl ?_
      refine z_gf 225 (.int (I 120 74)) rfl ⟨rfl, rfl, rfl⟩ rfl rfl ?_
      refine x_l 226 rfl rfl rfl ?_
      have h1 := h.1
      have h := h.2
      refine z_js 227 161 rfl ⟨rfl, rfl, rfl⟩ rfl h1 rfl ?_
      refine x_l 228 rfl rfl rfl ?_
      refine x_s 229 rfl rfl rfl ?_
      refine z_gf 232 (.int (I 120 74)) rfl ⟨rfl, rfl, rfl⟩ rfl rfl ?_
      refine z_k 233 1 rfl (by decide) rfl ?_
      refine x_s 234 rfl rfl rfl ?_
      refine z_pi 237 rfl (Or.inl rfl) rfl (fun z => by cases z) ⟨rfl, rfl, rfl⟩ rfl ?_
      refine x_g rfl ?_
      exact h
    · have h := h.2 c
      refine x_g rfl ?_
      exact h
  · have h := h.2 c
    refine x_l 160 rfl rfl rfl ?_
    refine x_b 163 rfl rfl rfl (fun c => ?_) (fun c => ?_)
    · have h := h.1 c
      refine z_k 187 1 rfl (by decide) rfl ?_
      refine x_g rfl ?_
      refine x_t 193 rfl rfl rfl ?_
      refine x_t 196 rfl rfl rfl ?_
      refine x_g rfl ?_
      exact h
    · have h := h.2 c
      refine x_l 164 rfl rfl rfl ?_
      refine z_gf 167 (.ref 162) rfl ⟨rfl, rfl, rfl⟩ rfl rfl ?_
      refine x_l 169 rfl rfl rfl ?_
      have h1 := h.1
      have h := h.2
      refine z_il 170 161 rfl ⟨rfl, rfl, rfl⟩ rfl h1 rfl ?_
      refine x_l 171 rfl rfl rfl ?_
      refine x_b 174 rfl rfl rfl (fun c => ?_) (fun c => ?_)
      · have h := h.1 c
        refine z_k 191 0 rfl (by decide) rfl ?_
        refine x_t 193 rfl rfl rfl ?_
        refine x_t 196 rfl rfl rfl ?_
        refine x_g rfl ?_
        exact h
      · have h := h.2 c
        refine x_l 175 rfl rfl rfl ?_
        refine z_gf 178 (.ref 168) rfl ⟨rfl, rfl, rfl⟩ rfl rfl ?_
        refine x_l 180 rfl rfl rfl ?_
        have h1 := h.1
        have h := h.2
        refine z_jl 181 161 rfl ⟨rfl, rfl, rfl⟩ rfl h1 rfl ?_
        refine x_l 182 rfl rfl rfl ?_
        refine x_lc 183 rfl rfl ?_
        refine x_b 186 rfl rfl rfl (fun c => ?_) (fun c => ?_)
        · have h := h.1 c
          refine z_k 191 0 rfl (by decide) rfl ?_
          refine x_t 193 rfl rfl rfl ?_
          refine x_t 196 rfl rfl rfl ?_
          refine x_g rfl ?_
          exact h
        · have h := h.2 c
          refine z_k 187 1 rfl (by decide) rfl ?_
          refine x_g rfl ?_
          refine x_t 193 rfl rfl rfl ?_
          refine x_t 196 rfl rfl rfl ?_
          refine x_g rfl ?_
          exact h

theorem bk_Mo_letters_240 {k : Nat} {pa pb : Nat} {ga : Nat → Nat} {I : pm_II} {J : pm_JJ} {Q : Option Value → pm_H → Prop} {x1 : Int32} (h : Px k 176 m_Mo_bad 0 [.ref 120] [] (hp I J (pm_RT pa pb ga)) (fun r h' => h'.1 = 176 ∧ Px (k + 1) 176 m_Mo_letters 244 [.ref 120, .int x1, .null, .null, .null, .null, .null] (r.toList ++ []) h' Q)) : Px (k + 1) 176 m_Mo_letters 240 [.ref 120, .int x1, .null, .null, .null, .null, .null] [] (hp I J (pm_RT pa pb ga)) Q := by
  refine x_l 241 rfl rfl rfl ?_
  exact z_cv (As := []) (rest := []) (b := 120) rfl at_Mo_bad rfl rfl (Nat.le_of_ble_eq_true rfl) (Nat.le_of_ble_eq_true rfl) ⟨rfl, rfl, rfl⟩ (by decide) rfl h

theorem bk_Mo_letters_244 {k : Nat} {pa pb : Nat} {ga : Nat → Nat} {I : pm_II} {J : pm_JJ} {Q : Option Value → pm_H → Prop} {x1 : Int32} {s0 : Int32} (h : ((s0 = 0 → (((I 120 74) ≤ 120 → Px k 176 m_Mo_bundled 0 [.ref 120, .null, .null, .null] [] (hp (pm_up I 120 73 (I 120 74)) J (pm_RT pa pb ga)) (fun r h' => h'.1 = 176 ∧ Px (k + 1) 176 m_Mo_letters 280 [.ref 120, .int x1, .null, .null, .null, .null, .null] (r.toList ++ []) h' Q)) ∧ (¬ ((I 120 74) ≤ 120) → Q (some (.int (-4))) (hp I J (pm_RT pa pb ga))))) ∧ (¬ (s0 = 0) → Q (some (.int (((-1000) : Int32) - (I 120 5)))) (hp I J (pm_RT pa pb ga))))) : Px (k + 1) 176 m_Mo_letters 244 [.ref 120, .int x1, .null, .null, .null, .null, .null] [.int s0] (hp I J (pm_RT pa pb ga)) Q := by
  refine x_b 247 rfl rfl rfl (fun c => ?_) (fun c => ?_)
  · have h := h.1 c
    refine x_l 257 rfl rfl rfl ?_
    refine z_gf 260 (.int (I 120 74)) rfl ⟨rfl, rfl, rfl⟩ rfl rfl ?_
    refine z_k 262 120 rfl (by decide) rfl ?_
    refine x_b 265 rfl rfl rfl (fun c => ?_) (fun c => ?_)
    · have h := h.1 c
      refine x_l 269 rfl rfl rfl ?_
      refine x_l 270 rfl rfl rfl ?_
      refine z_gf 273 (.int (I 120 74)) rfl ⟨rfl, rfl, rfl⟩ rfl rfl ?_
      refine z_pi 276 rfl (Or.inl rfl) rfl (fun z => by cases z) ⟨rfl, rfl, rfl⟩ rfl ?_
      refine x_l 277 rfl rfl rfl ?_
      exact z_cv (As := []) (rest := []) (b := 120) rfl at_Mo_bundled rfl rfl (Nat.le_of_ble_eq_true rfl) (Nat.le_of_ble_eq_true rfl) ⟨rfl, rfl, rfl⟩ (by decide) rfl h
    · have h := h.2 c
      refine z_k 267 (-4) rfl (by decide) rfl ?_
      exact x_ri rfl (Or.inl rfl) h
  · have h := h.2 c
    refine z_k 250 (-1000) rfl (by decide) rfl ?_
    refine x_l 251 rfl rfl rfl ?_
    refine z_gf 254 (.int (I 120 5)) rfl ⟨rfl, rfl, rfl⟩ rfl rfl ?_
    refine x_s 255 rfl rfl rfl ?_
    exact x_ri rfl (Or.inl rfl) h

theorem bk_Mo_letters_280 {k : Nat} {pa pb : Nat} {ga : Nat → Nat} {I : pm_II} {J : pm_JJ} {Q : Option Value → pm_H → Prop} {x1 : Int32} (h : Q (some (.int (I 120 73))) (hp I J (pm_RT pa pb ga))) : Px (k + 1) 176 m_Mo_letters 280 [.ref 120, .int x1, .null, .null, .null, .null, .null] [] (hp I J (pm_RT pa pb ga)) Q := by
  refine x_l 281 rfl rfl rfl ?_
  refine z_gf 284 (.int (I 120 73)) rfl ⟨rfl, rfl, rfl⟩ rfl rfl ?_
  exact x_ri rfl (Or.inl rfl) h

theorem bk_Mo_nameHere_0 {k : Nat} {pa pb : Nat} {ga : Nat → Nat} {I : pm_II} {J : pm_JJ} {Q : Option Value → pm_H → Prop} (h : Px k 176 m_Mo_bad 0 [.ref 120] [] (hp I J (pm_RT pa pb ga)) (fun r h' => h'.1 = 176 ∧ Px (k + 1) 176 m_Mo_nameHere 4 [.ref 120, .null, .null, .null] (r.toList ++ []) h' Q)) : Px (k + 1) 176 m_Mo_nameHere 0 [.ref 120, .null, .null, .null] [] (hp I J (pm_RT pa pb ga)) Q := by
  refine x_l 1 rfl rfl rfl ?_
  exact z_cv (As := []) (rest := []) (b := 120) rfl at_Mo_bad rfl rfl (Nat.le_of_ble_eq_true rfl) (Nat.le_of_ble_eq_true rfl) ⟨rfl, rfl, rfl⟩ (by decide) rfl h

theorem bk_Mo_nameHere_4 {k : Nat} {pa pb : Nat} {ga : Nat → Nat} {I : pm_II} {J : pm_JJ} {Q : Option Value → pm_H → Prop} {s0 : Int32} (h : ((s0 = 0 → Px k 176 m_Mo_here 0 [.ref 120] [] (hp I J (pm_RT pa pb ga)) (fun r h' => h'.1 = 176 ∧ Px (k + 1) 176 m_Mo_nameHere 20 [.ref 120, .long (Int64.ofNat 0), .null, .int (I 120 4)] (r.toList ++ []) h' Q)) ∧ (¬ (s0 = 0) → Q (some (.long (Int64.ofNat 0))) (hp I J (pm_RT pa pb ga))))) : Px (k + 1) 176 m_Mo_nameHere 4 [.ref 120, .null, .null, .null] [.int s0] (hp I J (pm_RT pa pb ga)) Q := by
  refine x_b 7 rfl rfl rfl (fun c => ?_) (fun c => ?_)
  · have h := h.1 c
    refine x_s 10 rfl rfl rfl ?_
    refine x_t 11 rfl rfl rfl ?_
    refine x_l 12 rfl rfl rfl ?_
    refine z_gf 15 (.int (I 120 4)) rfl ⟨rfl, rfl, rfl⟩ rfl rfl ?_
    refine x_t 16 rfl rfl rfl ?_
    refine x_l 17 rfl rfl rfl ?_
    exact z_cv (As := []) (rest := []) (b := 120) rfl at_Mo_here rfl rfl (Nat.le_of_ble_eq_true rfl) (Nat.le_of_ble_eq_true rfl) ⟨rfl, rfl, rfl⟩ (by decide) rfl h
  · have h := h.2 c
    refine x_s 8 rfl rfl rfl ?_
    exact x_rj rfl rfl h

theorem bk_Mo_nameHere_20 {k : Nat} {pa pb : Nat} {ga : Nat → Nat} {I : pm_II} {J : pm_JJ} {Q : Option Value → pm_H → Prop} {y1 : Int64} {x3 : Int32} {s0 : Int32} (h : Px k 176 m_Mo_isSmall 0 [.int s0] [] (hp I J (pm_RT pa pb ga)) (fun r h' => h'.1 = 176 ∧ Px (k + 1) 176 m_Mo_nameHere 23 [.ref 120, .long y1, .null, .int x3] (r.toList ++ []) h' Q)) : Px (k + 1) 176 m_Mo_nameHere 20 [.ref 120, .long y1, .null, .int x3] [.int s0] (hp I J (pm_RT pa pb ga)) Q := by
  exact z_cs (As := [.int s0]) (rest := []) rfl at_Mo_isSmall rfl rfl (Nat.le_of_ble_eq_true rfl) (Nat.le_of_ble_eq_true rfl) rfl h

theorem bk_Mo_nameHere_23 {k : Nat} {pa pb : Nat} {ga : Nat → Nat} {I : pm_II} {J : pm_JJ} {Q : Option Value → pm_H → Prop} {y1 : Int64} {x3 : Int32} {s0 : Int32} (h : ((¬ s0 = 0 → Px (k + 1) 176 m_Mo_nameHere 34 [.ref 120, .long y1, .null, .int x3] [] (hp I J (pm_RT pa pb ga)) Q) ∧ (¬ (¬ s0 = 0) → Px k 176 m_Mo_fail 0 [.ref 120, .int (I 120 4)] [] (hp I J (pm_RT pa pb ga)) (fun r h' => h'.1 = 176 ∧ Px (k + 1) 176 m_Mo_nameHere 34 [.ref 120, .long y1, .null, .int x3] (r.toList ++ []) h' Q)))) : Px (k + 1) 176 m_Mo_nameHere 23 [.ref 120, .long y1, .null, .int x3] [.int s0] (hp I J (pm_RT pa pb ga)) Q := by
  refine x_b 26 rfl rfl rfl (fun c => ?_) (fun c => ?_)
  · have h := h.1 c
    exact h
  · have h := h.2 c
    refine x_l 27 rfl rfl rfl ?_
    refine x_l 28 rfl rfl rfl ?_
    refine z_gf 31 (.int (I 120 4)) rfl ⟨rfl, rfl, rfl⟩ rfl rfl ?_
    exact z_cv (As := [.int (I 120 4)]) (rest := []) (b := 120) rfl at_Mo_fail rfl rfl (Nat.le_of_ble_eq_true rfl) (Nat.le_of_ble_eq_true rfl) ⟨rfl, rfl, rfl⟩ (by decide) rfl h

theorem bk_Mo_nameHere_34 {k : Nat} {pa pb : Nat} {ga : Nat → Nat} {I : pm_II} {J : pm_JJ} {Q : Option Value → pm_H → Prop} {y1 : Int64} {x3 : Int32} (h : Px k 176 m_Mo_bad 0 [.ref 120] [] (hp I J (pm_RT pa pb ga)) (fun r h' => h'.1 = 176 ∧ Px (k + 1) 176 m_Mo_nameHere 38 [.ref 120, .long y1, .null, .int x3] (r.toList ++ []) h' Q)) : Px (k + 1) 176 m_Mo_nameHere 34 [.ref 120, .long y1, .null, .int x3] [] (hp I J (pm_RT pa pb ga)) Q := by
  refine x_l 35 rfl rfl rfl ?_
  exact z_cv (As := []) (rest := []) (b := 120) rfl at_Mo_bad rfl rfl (Nat.le_of_ble_eq_true rfl) (Nat.le_of_ble_eq_true rfl) ⟨rfl, rfl, rfl⟩ (by decide) rfl h

theorem bk_Mo_nameHere_38 {k : Nat} {pa pb : Nat} {ga : Nat → Nat} {I : pm_II} {J : pm_JJ} {Q : Option Value → pm_H → Prop} {y1 : Int64} {x3 : Int32} {s0 : Int32} (h : ((¬ s0 = 0 → Px (k + 1) 176 m_Mo_nameHere 117 [.ref 120, .long y1, .null, .int x3] [] (hp I J (pm_RT pa pb ga)) Q) ∧ (¬ (¬ s0 = 0) → Px k 176 m_Mo_here 0 [.ref 120] [] (hp I J (pm_RT pa pb ga)) (fun r h' => h'.1 = 176 ∧ Px (k + 1) 176 m_Mo_nameHere 45 [.ref 120, .long y1, .null, .int x3] (r.toList ++ []) h' Q)))) : Px (k + 1) 176 m_Mo_nameHere 38 [.ref 120, .long y1, .null, .int x3] [.int s0] (hp I J (pm_RT pa pb ga)) Q := by
  refine x_b 41 rfl rfl rfl (fun c => ?_) (fun c => ?_)
  · have h := h.1 c
    exact h
  · have h := h.2 c
    refine x_l 42 rfl rfl rfl ?_
    exact z_cv (As := []) (rest := []) (b := 120) rfl at_Mo_here rfl rfl (Nat.le_of_ble_eq_true rfl) (Nat.le_of_ble_eq_true rfl) ⟨rfl, rfl, rfl⟩ (by decide) rfl h

theorem bk_Mo_nameHere_45 {k : Nat} {pa pb : Nat} {ga : Nat → Nat} {I : pm_II} {J : pm_JJ} {Q : Option Value → pm_H → Prop} {y1 : Int64} {x3 : Int32} {s0 : Int32} (h : Px k 176 m_Mo_isSmall 0 [.int s0] [] (hp I J (pm_RT pa pb ga)) (fun r h' => h'.1 = 176 ∧ Px (k + 1) 176 m_Mo_nameHere 48 [.ref 120, .long y1, .null, .int x3] (r.toList ++ []) h' Q)) : Px (k + 1) 176 m_Mo_nameHere 45 [.ref 120, .long y1, .null, .int x3] [.int s0] (hp I J (pm_RT pa pb ga)) Q := by
  exact z_cs (As := [.int s0]) (rest := []) rfl at_Mo_isSmall rfl rfl (Nat.le_of_ble_eq_true rfl) (Nat.le_of_ble_eq_true rfl) rfl h

theorem bk_Mo_nameHere_48 {k : Nat} {pa pb : Nat} {ga : Nat → Nat} {I : pm_II} {J : pm_JJ} {Q : Option Value → pm_H → Prop} {y1 : Int64} {x3 : Int32} {s0 : Int32} (h : ((¬ s0 = 0 → Px (k + 1) 176 m_Mo_nameHere 61 [.ref 120, .long y1, .null, .int x3] [] (hp I J (pm_RT pa pb ga)) Q) ∧ (¬ (¬ s0 = 0) → Px k 176 m_Mo_here 0 [.ref 120] [] (hp I J (pm_RT pa pb ga)) (fun r h' => h'.1 = 176 ∧ Px (k + 1) 176 m_Mo_nameHere 55 [.ref 120, .long y1, .null, .int x3] (r.toList ++ []) h' Q)))) : Px (k + 1) 176 m_Mo_nameHere 48 [.ref 120, .long y1, .null, .int x3] [.int s0] (hp I J (pm_RT pa pb ga)) Q := by
  refine x_b 51 rfl rfl rfl (fun c => ?_) (fun c => ?_)
  · have h := h.1 c
    exact h
  · have h := h.2 c
    refine x_l 52 rfl rfl rfl ?_
    exact z_cv (As := []) (rest := []) (b := 120) rfl at_Mo_here rfl rfl (Nat.le_of_ble_eq_true rfl) (Nat.le_of_ble_eq_true rfl) ⟨rfl, rfl, rfl⟩ (by decide) rfl h

theorem bk_Mo_nameHere_55 {k : Nat} {pa pb : Nat} {ga : Nat → Nat} {I : pm_II} {J : pm_JJ} {Q : Option Value → pm_H → Prop} {y1 : Int64} {x3 : Int32} {s0 : Int32} (h : Px k 176 m_Mo_isDigit 0 [.int s0] [] (hp I J (pm_RT pa pb ga)) (fun r h' => h'.1 = 176 ∧ Px (k + 1) 176 m_Mo_nameHere 58 [.ref 120, .long y1, .null, .int x3] (r.toList ++ []) h' Q)) : Px (k + 1) 176 m_Mo_nameHere 55 [.ref 120, .long y1, .null, .int x3] [.int s0] (hp I J (pm_RT pa pb ga)) Q := by
  exact z_cs (As := [.int s0]) (rest := []) rfl at_Mo_isDigit rfl rfl (Nat.le_of_ble_eq_true rfl) (Nat.le_of_ble_eq_true rfl) rfl h

theorem bk_Mo_nameHere_58 {k : Nat} {pa pb : Nat} {ga : Nat → Nat} {I : pm_II} {J : pm_JJ} {Q : Option Value → pm_H → Prop} {y1 : Int64} {x3 : Int32} {s0 : Int32} (h : ((s0 = 0 → Px (k + 1) 176 m_Mo_nameHere 117 [.ref 120, .long y1, .null, .int x3] [] (hp I J (pm_RT pa pb ga)) Q) ∧ (¬ (s0 = 0) → Px (k + 1) 176 m_Mo_nameHere 61 [.ref 120, .long y1, .null, .int x3] [] (hp I J (pm_RT pa pb ga)) Q))) : Px (k + 1) 176 m_Mo_nameHere 58 [.ref 120, .long y1, .null, .int x3] [.int s0] (hp I J (pm_RT pa pb ga)) Q := by
  refine x_b 61 rfl rfl rfl (fun c => ?_) (fun c => ?_)
  · have h := h.1 c
    exact h
  · have h := h.2 c
    exact h

theorem bk_Mo_nameHere_61 {k : Nat} {pa pb : Nat} {ga : Nat → Nat} {I : pm_II} {J : pm_JJ} {Q : Option Value → pm_H → Prop} {y1 : Int64} {x3 : Int32} (h : ((¬ ((I 120 4) - x3) = 8 → Px k 176 m_Mo_here 0 [.ref 120] [] (hp I J (pm_RT pa pb ga)) (fun r h' => h'.1 = 176 ∧ Px (k + 1) 176 m_Mo_nameHere 88 [.ref 120, .long y1, .null, .int x3] (r.toList ++ [.long y1]) h' Q)) ∧ (¬ (¬ ((I 120 4) - x3) = 8) → Px k 176 m_Mo_fail 0 [.ref 120, .int (I 120 4)] [] (hp I J (pm_RT pa pb ga)) (fun r h' => h'.1 = 176 ∧ Px (k + 1) 176 m_Mo_nameHere 80 [.ref 120, .long y1, .null, .int x3] (r.toList ++ []) h' Q)))) : Px (k + 1) 176 m_Mo_nameHere 61 [.ref 120, .long y1, .null, .int x3] [] (hp I J (pm_RT pa pb ga)) Q := by
  refine x_l 62 rfl rfl rfl ?_
  refine z_gf 65 (.int (I 120 4)) rfl ⟨rfl, rfl, rfl⟩ rfl rfl ?_
  refine x_l 66 rfl rfl rfl ?_
  refine x_s 67 rfl rfl rfl ?_
  refine z_k 69 8 rfl (by decide) rfl ?_
  refine x_b 72 rfl rfl rfl (fun c => ?_) (fun c => ?_)
  · have h := h.1 c
    refine x_l 84 rfl rfl rfl ?_
    refine x_l 85 rfl rfl rfl ?_
    exact z_cv (As := []) (rest := [.long y1]) (b := 120) rfl at_Mo_here rfl rfl (Nat.le_of_ble_eq_true rfl) (Nat.le_of_ble_eq_true rfl) ⟨rfl, rfl, rfl⟩ (by decide) rfl h
  · have h := h.2 c
    refine x_l 73 rfl rfl rfl ?_
    refine x_l 74 rfl rfl rfl ?_
    refine z_gf 77 (.int (I 120 4)) rfl ⟨rfl, rfl, rfl⟩ rfl rfl ?_
    exact z_cv (As := [.int (I 120 4)]) (rest := []) (b := 120) rfl at_Mo_fail rfl rfl (Nat.le_of_ble_eq_true rfl) (Nat.le_of_ble_eq_true rfl) ⟨rfl, rfl, rfl⟩ (by decide) rfl h

theorem bk_Mo_nameHere_80 {k : Nat} {pa pb : Nat} {ga : Nat → Nat} {I : pm_II} {J : pm_JJ} {Q : Option Value → pm_H → Prop} {y1 : Int64} {x3 : Int32} (h : Px (k + 1) 176 m_Mo_nameHere 34 [.ref 120, .long y1, .null, .int x3] [] (hp I J (pm_RT pa pb ga)) Q) : Px (k + 1) 176 m_Mo_nameHere 80 [.ref 120, .long y1, .null, .int x3] [] (hp I J (pm_RT pa pb ga)) Q := by
  refine x_g rfl ?_
  exact h

theorem bk_Mo_nameHere_88 {k : Nat} {pa pb : Nat} {ga : Nat → Nat} {I : pm_II} {J : pm_JJ} {Q : Option Value → pm_H → Prop} {y1 : Int64} {x3 : Int32} {w0 : Int64} {s1 : Int32} (h : Px (k + 1) 176 m_Mo_nameHere 34 [.ref 120, .long (w0 ||| ((s1 : Int32).toInt64 <<< ((((56 : Int32) - ((8 : Int32) * ((I 120 4) - x3))) : Int32).toInt64 &&& 63))), .null, .int x3] [] (hp (pm_up I 120 4 ((I 120 4) + (1 : Int32))) J (pm_RT pa pb ga)) Q) : Px (k + 1) 176 m_Mo_nameHere 88 [.ref 120, .long y1, .null, .int x3] [.int s1, .long w0] (hp I J (pm_RT pa pb ga)) Q := by
  refine x_s 89 rfl rfl rfl ?_
  refine z_k 91 56 rfl (by decide) rfl ?_
  refine z_k 93 8 rfl (by decide) rfl ?_
  refine x_l 94 rfl rfl rfl ?_
  refine z_gf 97 (.int (I 120 4)) rfl ⟨rfl, rfl, rfl⟩ rfl rfl ?_
  refine x_l 98 rfl rfl rfl ?_
  refine x_s 99 rfl rfl rfl ?_
  refine x_s 100 rfl rfl rfl ?_
  refine x_s 101 rfl rfl rfl ?_
  refine x_s 102 rfl rfl rfl ?_
  refine x_s 103 rfl rfl rfl ?_
  refine x_t 104 rfl rfl rfl ?_
  refine x_l 105 rfl rfl rfl ?_
  refine x_s 106 rfl rfl rfl ?_
  refine z_gf 109 (.int (I 120 4)) rfl ⟨rfl, rfl, rfl⟩ rfl rfl ?_
  refine z_k 110 1 rfl (by decide) rfl ?_
  refine x_s 111 rfl rfl rfl ?_
  refine z_pi 114 rfl (Or.inl rfl) rfl (fun z => by cases z) ⟨rfl, rfl, rfl⟩ rfl ?_
  refine x_g rfl ?_
  exact h

theorem bk_Mo_nameHere_117 {k : Nat} {pa pb : Nat} {ga : Nat → Nat} {I : pm_II} {J : pm_JJ} {Q : Option Value → pm_H → Prop} {y1 : Int64} {x3 : Int32} (h : Q (some (.long y1)) (hp I J (pm_RT pa pb ga))) : Px (k + 1) 176 m_Mo_nameHere 117 [.ref 120, .long y1, .null, .int x3] [] (hp I J (pm_RT pa pb ga)) Q := by
  refine x_l 118 rfl rfl rfl ?_
  exact x_rj rfl rfl h

theorem bk_Mo_bundled_0 {k : Nat} {pa pb : Nat} {ga : Nat → Nat} {I : pm_II} {J : pm_JJ} {Q : Option Value → pm_H → Prop} (h : Px (k + 1) 176 m_Mo_bundled 2 [.ref 120, .int 0, .null, .null] [] (hp I J (pm_RT pa pb ga)) Q) : Px (k + 1) 176 m_Mo_bundled 0 [.ref 120, .null, .null, .null] [] (hp I J (pm_RT pa pb ga)) Q := by
  refine z_k 1 0 rfl (by decide) rfl ?_
  refine x_t 2 rfl rfl rfl ?_
  exact h

theorem bk_Mo_bundled_2 {k : Nat} {pa pb : Nat} {ga : Nat → Nat} {I : pm_II} {J : pm_JJ} {Q : Option Value → pm_H → Prop} {x1 : Int32} (h : (((I 120 73) ≤ x1 → Px k 176 m_Mo_stage 0 [.ref 120, .int 0, .int 1, .null, .null, .null, .null, .null, .null, .null] [] (hp (pm_up I 120 77 0) J (pm_RT pa pb ga)) (fun r h' => h'.1 = 176 ∧ Px (k + 1) 176 m_Mo_bundled 76 [.ref 120, .int x1, .null, .null] (r.toList ++ []) h' Q)) ∧ (¬ ((I 120 73) ≤ x1) → Px (k + 1) 176 m_Mo_bundled 14 [.ref 120, .int x1, .int 0, .int 0] [] (hp I J (pm_RT pa pb ga)) Q))) : Px (k + 1) 176 m_Mo_bundled 2 [.ref 120, .int x1, .null, .null] [] (hp I J (pm_RT pa pb ga)) Q := by
  refine x_l 3 rfl rfl rfl ?_
  refine x_l 4 rfl rfl rfl ?_
  refine z_gf 7 (.int (I 120 73)) rfl ⟨rfl, rfl, rfl⟩ rfl rfl ?_
  refine x_b 10 rfl rfl rfl (fun c => ?_) (fun c => ?_)
  · have h := h.1 c
    refine x_l 66 rfl rfl rfl ?_
    refine z_k 67 0 rfl (by decide) rfl ?_
    refine z_pi 70 rfl (Or.inl rfl) rfl (fun z => by cases z) ⟨rfl, rfl, rfl⟩ rfl ?_
    refine x_l 71 rfl rfl rfl ?_
    refine z_k 72 0 rfl (by decide) rfl ?_
    refine z_k 73 1 rfl (by decide) rfl ?_
    exact z_cv (As := [.int 0, .int 1]) (rest := []) (b := 120) rfl at_Mo_stage rfl rfl (Nat.le_of_ble_eq_true rfl) (Nat.le_of_ble_eq_true rfl) ⟨rfl, rfl, rfl⟩ (by decide) rfl h
  · have h := h.2 c
    refine z_k 11 0 rfl (by decide) rfl ?_
    refine x_t 12 rfl rfl rfl ?_
    refine z_k 13 0 rfl (by decide) rfl ?_
    refine x_t 14 rfl rfl rfl ?_
    exact h

theorem bk_Mo_bundled_14 {k : Nat} {pa pb : Nat} {ga : Nat → Nat} {I : pm_II} {J : pm_JJ} {Q : Option Value → pm_H → Prop} {x1 : Int32} {x2 : Int32} {x3 : Int32} (h : (((I 120 73) ≤ x3 → vp_in x2 121 ∧ vp_in x2 121 ∧ Px (k + 1) 176 m_Mo_bundled 2 [.ref 120, .int (x1 + Int32.ofInt 1), .int x2, .int x3] [] (hp (pm_up (pm_up I 164 ((x2 : Int32).toNatClampNeg) x1) 163 ((x2 : Int32).toNatClampNeg) (-1)) J (pm_RT pa pb ga)) Q) ∧ (¬ ((I 120 73) ≤ x3) → Px k 176 m_Mo_isAhead 0 [.ref 120, .int x3, .int x1] [] (hp I J (pm_RT pa pb ga)) (fun r h' => h'.1 = 176 ∧ Px (k + 1) 176 m_Mo_bundled 29 [.ref 120, .int x1, .int x2, .int x3] (r.toList ++ [.int x2]) h' Q)))) : Px (k + 1) 176 m_Mo_bundled 14 [.ref 120, .int x1, .int x2, .int x3] [] (hp I J (pm_RT pa pb ga)) Q := by
  refine x_l 15 rfl rfl rfl ?_
  refine x_l 16 rfl rfl rfl ?_
  refine z_gf 19 (.int (I 120 73)) rfl ⟨rfl, rfl, rfl⟩ rfl rfl ?_
  refine x_b 22 rfl rfl rfl (fun c => ?_) (fun c => ?_)
  · have h := h.1 c
    refine x_l 46 rfl rfl rfl ?_
    refine z_gf 49 (.ref 164) rfl ⟨rfl, rfl, rfl⟩ rfl rfl ?_
    refine x_l 50 rfl rfl rfl ?_
    refine x_l 51 rfl rfl rfl ?_
    have h1 := h.1
    have h := h.2
    refine z_is 52 121 rfl ⟨rfl, rfl, rfl⟩ rfl h1 rfl ?_
    refine x_l 53 rfl rfl rfl ?_
    refine z_gf 56 (.ref 163) rfl ⟨rfl, rfl, rfl⟩ rfl rfl ?_
    refine x_l 57 rfl rfl rfl ?_
    refine z_k 58 (-1) rfl (by decide) rfl ?_
    have h1 := h.1
    have h := h.2
    refine z_is 59 121 rfl ⟨rfl, rfl, rfl⟩ rfl h1 rfl ?_
    refine x_t 62 rfl rfl rfl ?_
    refine x_g rfl ?_
    exact h
  · have h := h.2 c
    refine x_l 23 rfl rfl rfl ?_
    refine x_l 24 rfl rfl rfl ?_
    refine x_l 25 rfl rfl rfl ?_
    refine x_l 26 rfl rfl rfl ?_
    exact z_cv (As := [.int x3, .int x1]) (rest := [.int x2]) (b := 120) rfl at_Mo_isAhead rfl rfl (Nat.le_of_ble_eq_true rfl) (Nat.le_of_ble_eq_true rfl) ⟨rfl, rfl, rfl⟩ (by decide) rfl h

theorem bk_Mo_bundled_29 {k : Nat} {pa pb : Nat} {ga : Nat → Nat} {I : pm_II} {J : pm_JJ} {Q : Option Value → pm_H → Prop} {x1 : Int32} {x2 : Int32} {x3 : Int32} {s0 : Int32} {s1 : Int32} (h : ((s1 = 0 → Px (k + 1) 176 m_Mo_bundled 14 [.ref 120, .int x1, .int (s0 + (0 : Int32)), .int (x3 + Int32.ofInt 1)] [] (hp I J (pm_RT pa pb ga)) Q) ∧ (¬ (s1 = 0) → Px (k + 1) 176 m_Mo_bundled 14 [.ref 120, .int x1, .int (s0 + (1 : Int32)), .int (x3 + Int32.ofInt 1)] [] (hp I J (pm_RT pa pb ga)) Q))) : Px (k + 1) 176 m_Mo_bundled 29 [.ref 120, .int x1, .int x2, .int x3] [.int s1, .int s0] (hp I J (pm_RT pa pb ga)) Q := by
  refine x_b 32 rfl rfl rfl (fun c => ?_) (fun c => ?_)
  · have h := h.1 c
    refine z_k 37 0 rfl (by decide) rfl ?_
    refine x_s 38 rfl rfl rfl ?_
    refine x_t 39 rfl rfl rfl ?_
    refine x_t 42 rfl rfl rfl ?_
    refine x_g rfl ?_
    exact h
  · have h := h.2 c
    refine z_k 33 1 rfl (by decide) rfl ?_
    refine x_g rfl ?_
    refine x_s 38 rfl rfl rfl ?_
    refine x_t 39 rfl rfl rfl ?_
    refine x_t 42 rfl rfl rfl ?_
    refine x_g rfl ?_
    exact h

theorem bk_Mo_bundled_76 {k : Nat} {pa pb : Nat} {ga : Nat → Nat} {I : pm_II} {J : pm_JJ} {Q : Option Value → pm_H → Prop} {x1 : Int32} (h : Px k 176 m_Mo_stage 0 [.ref 120, .int 1, .int 100, .null, .null, .null, .null, .null, .null, .null] [] (hp I J (pm_RT pa pb ga)) (fun r h' => h'.1 = 176 ∧ Px (k + 1) 176 m_Mo_bundled 83 [.ref 120, .int x1, .null, .null] (r.toList ++ []) h' Q)) : Px (k + 1) 176 m_Mo_bundled 76 [.ref 120, .int x1, .null, .null] [] (hp I J (pm_RT pa pb ga)) Q := by
  refine x_l 77 rfl rfl rfl ?_
  refine z_k 78 1 rfl (by decide) rfl ?_
  refine z_k 80 100 rfl (by decide) rfl ?_
  exact z_cv (As := [.int 1, .int 100]) (rest := []) (b := 120) rfl at_Mo_stage rfl rfl (Nat.le_of_ble_eq_true rfl) (Nat.le_of_ble_eq_true rfl) ⟨rfl, rfl, rfl⟩ (by decide) rfl h

theorem bk_Mo_bundled_83 {k : Nat} {pa pb : Nat} {ga : Nat → Nat} {I : pm_II} {J : pm_JJ} {Q : Option Value → pm_H → Prop} {x1 : Int32} (h : Px k 176 m_Mo_stage 0 [.ref 120, .int 2, .int (Int32.ofNat 100000), .null, .null, .null, .null, .null, .null, .null] [] (hp I J (pm_RT pa pb ga)) (fun r h' => h'.1 = 176 ∧ Px (k + 1) 176 m_Mo_bundled 91 [.ref 120, .int x1, .null, .null] (r.toList ++ []) h' Q)) : Px (k + 1) 176 m_Mo_bundled 83 [.ref 120, .int x1, .null, .null] [] (hp I J (pm_RT pa pb ga)) Q := by
  refine x_l 84 rfl rfl rfl ?_
  refine z_k 85 2 rfl (by decide) rfl ?_
  refine x_li 88 rfl (Or.inr rfl) rfl ?_
  exact z_cv (As := [.int 2, .int (Int32.ofNat 100000)]) (rest := []) (b := 120) rfl at_Mo_stage rfl rfl (Nat.le_of_ble_eq_true rfl) (Nat.le_of_ble_eq_true rfl) ⟨rfl, rfl, rfl⟩ (by decide) rfl h

theorem bk_Mo_bundled_91 {k : Nat} {pa pb : Nat} {ga : Nat → Nat} {I : pm_II} {J : pm_JJ} {Q : Option Value → pm_H → Prop} {x1 : Int32} (h : Q none (hp I J (pm_RT pa pb ga))) : Px (k + 1) 176 m_Mo_bundled 91 [.ref 120, .int x1, .null, .null] [] (hp I J (pm_RT pa pb ga)) Q := by
  exact x_rv rfl rfl h

theorem bk_Mo_isAhead_0 {k : Nat} {pa pb : Nat} {ga : Nat → Nat} {I : pm_II} {J : pm_JJ} {Q : Option Value → pm_H → Prop} {x1 : Int32} {x2 : Int32} (h : vp_in x1 161 ∧ vp_in x2 161 ∧ (((I 162 ((x1 : Int32).toNatClampNeg)) < (I 162 ((x2 : Int32).toNatClampNeg)) → Q (some (.int 1)) (hp I J (pm_RT pa pb ga))) ∧ (¬ ((I 162 ((x1 : Int32).toNatClampNeg)) < (I 162 ((x2 : Int32).toNatClampNeg))) → vp_in x1 161 ∧ vp_in x2 161 ∧ ((¬ (I 162 ((x1 : Int32).toNatClampNeg)) = (I 162 ((x2 : Int32).toNatClampNeg)) → Q (some (.int 0)) (hp I J (pm_RT pa pb ga))) ∧ (¬ (¬ (I 162 ((x1 : Int32).toNatClampNeg)) = (I 162 ((x2 : Int32).toNatClampNeg))) → vp_in x1 161 ∧ vp_in x2 161 ∧ ((0 ≤ (lg_cmp (J 168 ((x1 : Int32).toNatClampNeg)) (J 168 ((x2 : Int32).toNatClampNeg))) → Q (some (.int 0)) (hp I J (pm_RT pa pb ga))) ∧ (¬ (0 ≤ (lg_cmp (J 168 ((x1 : Int32).toNatClampNeg)) (J 168 ((x2 : Int32).toNatClampNeg)))) → Q (some (.int 1)) (hp I J (pm_RT pa pb ga))))))))) : Px k 176 m_Mo_isAhead 0 [.ref 120, .int x1, .int x2] [] (hp I J (pm_RT pa pb ga)) Q := by
  refine x_l 1 rfl rfl rfl ?_
  refine z_gf 4 (.ref 162) rfl ⟨rfl, rfl, rfl⟩ rfl rfl ?_
  refine x_l 5 rfl rfl rfl ?_
  have h1 := h.1
  have h := h.2
  refine z_il 6 161 rfl ⟨rfl, rfl, rfl⟩ rfl h1 rfl ?_
  refine x_l 7 rfl rfl rfl ?_
  refine z_gf 10 (.ref 162) rfl ⟨rfl, rfl, rfl⟩ rfl rfl ?_
  refine x_l 11 rfl rfl rfl ?_
  have h1 := h.1
  have h := h.2
  refine z_il 12 161 rfl ⟨rfl, rfl, rfl⟩ rfl h1 rfl ?_
  refine x_b 15 rfl rfl rfl (fun c => ?_) (fun c => ?_)
  · have h := h.1 c
    refine z_k 47 1 rfl (by decide) rfl ?_
    refine x_g rfl ?_
    exact x_ri rfl (Or.inr ⟨rfl, Or.inr rfl⟩) h
  · have h := h.2 c
    refine x_l 16 rfl rfl rfl ?_
    refine z_gf 19 (.ref 162) rfl ⟨rfl, rfl, rfl⟩ rfl rfl ?_
    refine x_l 20 rfl rfl rfl ?_
    have h1 := h.1
    have h := h.2
    refine z_il 21 161 rfl ⟨rfl, rfl, rfl⟩ rfl h1 rfl ?_
    refine x_l 22 rfl rfl rfl ?_
    refine z_gf 25 (.ref 162) rfl ⟨rfl, rfl, rfl⟩ rfl rfl ?_
    refine x_l 26 rfl rfl rfl ?_
    have h1 := h.1
    have h := h.2
    refine z_il 27 161 rfl ⟨rfl, rfl, rfl⟩ rfl h1 rfl ?_
    refine x_b 30 rfl rfl rfl (fun c => ?_) (fun c => ?_)
    · have h := h.1 c
      refine z_k 51 0 rfl (by decide) rfl ?_
      exact x_ri rfl (Or.inr ⟨rfl, Or.inl rfl⟩) h
    · have h := h.2 c
      refine x_l 31 rfl rfl rfl ?_
      refine z_gf 34 (.ref 168) rfl ⟨rfl, rfl, rfl⟩ rfl rfl ?_
      refine x_l 35 rfl rfl rfl ?_
      have h1 := h.1
      have h := h.2
      refine z_jl 36 161 rfl ⟨rfl, rfl, rfl⟩ rfl h1 rfl ?_
      refine x_l 37 rfl rfl rfl ?_
      refine z_gf 40 (.ref 168) rfl ⟨rfl, rfl, rfl⟩ rfl rfl ?_
      refine x_l 41 rfl rfl rfl ?_
      have h1 := h.1
      have h := h.2
      refine z_jl 42 161 rfl ⟨rfl, rfl, rfl⟩ rfl h1 rfl ?_
      refine x_lc 43 rfl rfl ?_
      refine x_b 46 rfl rfl rfl (fun c => ?_) (fun c => ?_)
      · have h := h.1 c
        refine z_k 51 0 rfl (by decide) rfl ?_
        exact x_ri rfl (Or.inr ⟨rfl, Or.inl rfl⟩) h
      · have h := h.2 c
        refine z_k 47 1 rfl (by decide) rfl ?_
        refine x_g rfl ?_
        exact x_ri rfl (Or.inr ⟨rfl, Or.inr rfl⟩) h

theorem bk_Mo_stage_0 {k : Nat} {pa pb : Nat} {ga : Nat → Nat} {I : pm_II} {J : pm_JJ} {Q : Option Value → pm_H → Prop} {x1 : Int32} {x2 : Int32} (h : Px (k + 1) 176 m_Mo_stage 2 [.ref 120, .int x1, .int x2, .int 0, .null, .null, .null, .null, .null, .null] [] (hp I J (pm_RT pa pb ga)) Q) : Px (k + 1) 176 m_Mo_stage 0 [.ref 120, .int x1, .int x2, .null, .null, .null, .null, .null, .null, .null] [] (hp I J (pm_RT pa pb ga)) Q := by
  refine z_k 1 0 rfl (by decide) rfl ?_
  refine x_t 2 rfl rfl rfl ?_
  exact h

theorem bk_Mo_stage_2 {k : Nat} {pa pb : Nat} {ga : Nat → Nat} {I : pm_II} {J : pm_JJ} {Q : Option Value → pm_H → Prop} {x1 : Int32} {x2 : Int32} {x3 : Int32} (h : (((I 120 73) ≤ x3 → Q none (hp I J (pm_RT pa pb ga))) ∧ (¬ ((I 120 73) ≤ x3) → vp_in x3 121 ∧ vp_in (I 164 ((x3 : Int32).toNatClampNeg)) 161 ∧ ¬ x2 = 0 ∧ Px (k + 1) 176 m_Mo_stage 31 [.ref 120, .int x1, .int x2, .int x3, .int 0, .int x3, .int ((I 162 (((I 164 ((x3 : Int32).toNatClampNeg)) : Int32).toNatClampNeg)) / x2), .null, .null, .null] [] (hp I J (pm_RT pa pb ga)) Q))) : Px (k + 1) 176 m_Mo_stage 2 [.ref 120, .int x1, .int x2, .int x3, .null, .null, .null, .null, .null, .null] [] (hp I J (pm_RT pa pb ga)) Q := by
  refine x_l 3 rfl rfl rfl ?_
  refine x_l 4 rfl rfl rfl ?_
  refine z_gf 7 (.int (I 120 73)) rfl ⟨rfl, rfl, rfl⟩ rfl rfl ?_
  refine x_b 10 rfl rfl rfl (fun c => ?_) (fun c => ?_)
  · have h := h.1 c
    exact x_rv rfl rfl h
  · have h := h.2 c
    refine z_k 11 0 rfl (by decide) rfl ?_
    refine x_t 13 rfl rfl rfl ?_
    refine x_l 14 rfl rfl rfl ?_
    refine x_t 16 rfl rfl rfl ?_
    refine x_l 17 rfl rfl rfl ?_
    refine z_gf 20 (.ref 162) rfl ⟨rfl, rfl, rfl⟩ rfl rfl ?_
    refine x_l 21 rfl rfl rfl ?_
    refine z_gf 24 (.ref 164) rfl ⟨rfl, rfl, rfl⟩ rfl rfl ?_
    refine x_l 25 rfl rfl rfl ?_
    have h1 := h.1
    have h := h.2
    refine z_il 26 121 rfl ⟨rfl, rfl, rfl⟩ rfl h1 rfl ?_
    have h1 := h.1
    have h := h.2
    refine z_il 27 161 rfl ⟨rfl, rfl, rfl⟩ rfl h1 rfl ?_
    refine x_l 28 rfl rfl rfl ?_
    have h0 := h.1
    have h := h.2
    refine x_dv 29 rfl h0 rfl ?_
    refine x_t 31 rfl rfl rfl ?_
    exact h

theorem bk_Mo_stage_31 {k : Nat} {pa pb : Nat} {ga : Nat → Nat} {I : pm_II} {J : pm_JJ} {Q : Option Value → pm_H → Prop} {x1 : Int32} {x2 : Int32} {x3 : Int32} {x4 : Int32} {x5 : Int32} {x6 : Int32} (h : (((I 120 73) ≤ x5 → Px (k + 1) 176 m_Mo_stage 86 [.ref 120, .int x1, .int x2, .int x3, .int x4, .int x5, .int x6, .null, .null, .null] [] (hp I J (pm_RT pa pb ga)) Q) ∧ (¬ ((I 120 73) ≤ x5) → vp_in x5 121 ∧ vp_in (I 164 ((x5 : Int32).toNatClampNeg)) 161 ∧ ¬ x2 = 0 ∧ ((¬ ((I 162 (((I 164 ((x5 : Int32).toNatClampNeg)) : Int32).toNatClampNeg)) / x2) = x6 → Px (k + 1) 176 m_Mo_stage 86 [.ref 120, .int x1, .int x2, .int x3, .int x4, .int x5, .int x6, .null, .null, .null] [] (hp I J (pm_RT pa pb ga)) Q) ∧ (¬ (¬ ((I 162 (((I 164 ((x5 : Int32).toNatClampNeg)) : Int32).toNatClampNeg)) / x2) = x6) → vp_in x5 121 ∧ ((¬ (I 163 ((x5 : Int32).toNatClampNeg)) = (-1) → Px (k + 1) 176 m_Mo_stage 31 [.ref 120, .int x1, .int x2, .int x3, .int (x4 + (0 : Int32)), .int (x5 + Int32.ofInt 1), .int x6, .null, .null, .null] [] (hp I J (pm_RT pa pb ga)) Q) ∧ (¬ (¬ (I 163 ((x5 : Int32).toNatClampNeg)) = (-1)) → Px (k + 1) 176 m_Mo_stage 31 [.ref 120, .int x1, .int x2, .int x3, .int (x4 + (1 : Int32)), .int (x5 + Int32.ofInt 1), .int x6, .null, .null, .null] [] (hp I J (pm_RT pa pb ga)) Q))))))) : Px (k + 1) 176 m_Mo_stage 31 [.ref 120, .int x1, .int x2, .int x3, .int x4, .int x5, .int x6, .null, .null, .null] [] (hp I J (pm_RT pa pb ga)) Q := by
  refine x_l 33 rfl rfl rfl ?_
  refine x_l 34 rfl rfl rfl ?_
  refine z_gf 37 (.int (I 120 73)) rfl ⟨rfl, rfl, rfl⟩ rfl rfl ?_
  refine x_b 40 rfl rfl rfl (fun c => ?_) (fun c => ?_)
  · have h := h.1 c
    exact h
  · have h := h.2 c
    refine x_l 41 rfl rfl rfl ?_
    refine z_gf 44 (.ref 162) rfl ⟨rfl, rfl, rfl⟩ rfl rfl ?_
    refine x_l 45 rfl rfl rfl ?_
    refine z_gf 48 (.ref 164) rfl ⟨rfl, rfl, rfl⟩ rfl rfl ?_
    refine x_l 50 rfl rfl rfl ?_
    have h1 := h.1
    have h := h.2
    refine z_il 51 121 rfl ⟨rfl, rfl, rfl⟩ rfl h1 rfl ?_
    have h1 := h.1
    have h := h.2
    refine z_il 52 161 rfl ⟨rfl, rfl, rfl⟩ rfl h1 rfl ?_
    refine x_l 53 rfl rfl rfl ?_
    have h0 := h.1
    have h := h.2
    refine x_dv 54 rfl h0 rfl ?_
    refine x_l 56 rfl rfl rfl ?_
    refine x_b 59 rfl rfl rfl (fun c => ?_) (fun c => ?_)
    · have h := h.1 c
      exact h
    · have h := h.2 c
      refine x_l 61 rfl rfl rfl ?_
      refine x_l 62 rfl rfl rfl ?_
      refine z_gf 65 (.ref 163) rfl ⟨rfl, rfl, rfl⟩ rfl rfl ?_
      refine x_l 67 rfl rfl rfl ?_
      have h1 := h.1
      have h := h.2
      refine z_il 68 121 rfl ⟨rfl, rfl, rfl⟩ rfl h1 rfl ?_
      refine z_k 69 (-1) rfl (by decide) rfl ?_
      refine x_b 72 rfl rfl rfl (fun c => ?_) (fun c => ?_)
      · have h := h.1 c
        refine z_k 77 0 rfl (by decide) rfl ?_
        refine x_s 78 rfl rfl rfl ?_
        refine x_t 80 rfl rfl rfl ?_
        refine x_t 83 rfl rfl rfl ?_
        refine x_g rfl ?_
        exact h
      · have h := h.2 c
        refine z_k 73 1 rfl (by decide) rfl ?_
        refine x_g rfl ?_
        refine x_s 78 rfl rfl rfl ?_
        refine x_t 80 rfl rfl rfl ?_
        refine x_t 83 rfl rfl rfl ?_
        refine x_g rfl ?_
        exact h

theorem bk_Mo_stage_86 {k : Nat} {pa pb : Nat} {ga : Nat → Nat} {I : pm_II} {J : pm_JJ} {Q : Option Value → pm_H → Prop} {x1 : Int32} {x2 : Int32} {x3 : Int32} {x4 : Int32} {x5 : Int32} {x6 : Int32} (h : Px (k + 1) 176 m_Mo_stage 89 [.ref 120, .int x1, .int x2, .int x3, .int x4, .int x5, .int x6, .int x3, .null, .null] [] (hp I J (pm_RT pa pb ga)) Q) : Px (k + 1) 176 m_Mo_stage 86 [.ref 120, .int x1, .int x2, .int x3, .int x4, .int x5, .int x6, .null, .null, .null] [] (hp I J (pm_RT pa pb ga)) Q := by
  refine x_l 87 rfl rfl rfl ?_
  refine x_t 89 rfl rfl rfl ?_
  exact h

theorem bk_Mo_stage_89 {k : Nat} {pa pb : Nat} {ga : Nat → Nat} {I : pm_II} {J : pm_JJ} {Q : Option Value → pm_H → Prop} {x1 : Int32} {x2 : Int32} {x3 : Int32} {x4 : Int32} {x5 : Int32} {x6 : Int32} {x7 : Int32} (h : (((I 120 76) ≤ x4 → Px (k + 1) 176 m_Mo_stage 117 [.ref 120, .int x1, .int x2, .int x3, .int x4, .int x5, .int x6, .int x7, .null, .null] [] (hp I J (pm_RT pa pb ga)) Q) ∧ (¬ ((I 120 76) ≤ x4) → ((x4 ≤ 0 → Px (k + 1) 176 m_Mo_stage 226 [.ref 120, .int x1, .int x2, .int x3, .int x4, .int x5, .int x6, .int x7, .null, .null] [] (hp I J (pm_RT pa pb ga)) Q) ∧ (¬ (x4 ≤ 0) → ((x1 = 2 → Px (k + 1) 176 m_Mo_stage 117 [.ref 120, .int x1, .int x2, .int x3, .int x4, .int x5, .int x6, .int x7, .null, .null] [] (hp I J (pm_RT pa pb ga)) Q) ∧ (¬ (x1 = 2) → ((x4 < (I 120 75) → Px (k + 1) 176 m_Mo_stage 226 [.ref 120, .int x1, .int x2, .int x3, .int x4, .int x5, .int x6, .int x7, .null, .null] [] (hp I J (pm_RT pa pb ga)) Q) ∧ (¬ (x4 < (I 120 75)) → Px (k + 1) 176 m_Mo_stage 117 [.ref 120, .int x1, .int x2, .int x3, .int x4, .int x5, .int x6, .int x7, .null, .null] [] (hp I J (pm_RT pa pb ga)) Q))))))))) : Px (k + 1) 176 m_Mo_stage 89 [.ref 120, .int x1, .int x2, .int x3, .int x4, .int x5, .int x6, .int x7, .null, .null] [] (hp I J (pm_RT pa pb ga)) Q := by
  refine x_l 91 rfl rfl rfl ?_
  refine x_l 92 rfl rfl rfl ?_
  refine z_gf 95 (.int (I 120 76)) rfl ⟨rfl, rfl, rfl⟩ rfl rfl ?_
  refine x_b 98 rfl rfl rfl (fun c => ?_) (fun c => ?_)
  · have h := h.1 c
    exact h
  · have h := h.2 c
    refine x_l 100 rfl rfl rfl ?_
    refine x_b 103 rfl rfl rfl (fun c => ?_) (fun c => ?_)
    · have h := h.1 c
      exact h
    · have h := h.2 c
      refine x_l 104 rfl rfl rfl ?_
      refine z_k 105 2 rfl (by decide) rfl ?_
      refine x_b 108 rfl rfl rfl (fun c => ?_) (fun c => ?_)
      · have h := h.1 c
        exact h
      · have h := h.2 c
        refine x_l 110 rfl rfl rfl ?_
        refine x_l 111 rfl rfl rfl ?_
        refine z_gf 114 (.int (I 120 75)) rfl ⟨rfl, rfl, rfl⟩ rfl rfl ?_
        refine x_b 117 rfl rfl rfl (fun c => ?_) (fun c => ?_)
        · have h := h.1 c
          exact h
        · have h := h.2 c
          exact h

theorem bk_Mo_stage_117 {k : Nat} {pa pb : Nat} {ga : Nat → Nat} {I : pm_II} {J : pm_JJ} {Q : Option Value → pm_H → Prop} {x1 : Int32} {x2 : Int32} {x3 : Int32} {x4 : Int32} {x5 : Int32} {x6 : Int32} {x7 : Int32} (h : Px k 176 m_Jm_min_II 0 [.int x4, .int (I 120 76)] [] (hp I J (pm_RT pa pb ga)) (fun r h' => h'.1 = 176 ∧ Px (k + 1) 176 m_Mo_stage 126 [.ref 120, .int x1, .int x2, .int x3, .int x4, .int x5, .int x6, .int x7, .null, .null] (r.toList ++ []) h' Q)) : Px (k + 1) 176 m_Mo_stage 117 [.ref 120, .int x1, .int x2, .int x3, .int x4, .int x5, .int x6, .int x7, .null, .null] [] (hp I J (pm_RT pa pb ga)) Q := by
  refine x_l 119 rfl rfl rfl ?_
  refine x_l 120 rfl rfl rfl ?_
  refine z_gf 123 (.int (I 120 76)) rfl ⟨rfl, rfl, rfl⟩ rfl rfl ?_
  exact z_cs (As := [.int x4, .int (I 120 76)]) (rest := []) rfl at_Jm_min_II rfl rfl (Nat.le_of_ble_eq_true rfl) (Nat.le_of_ble_eq_true rfl) rfl h

theorem bk_Mo_stage_126 {k : Nat} {pa pb : Nat} {ga : Nat → Nat} {I : pm_II} {J : pm_JJ} {Q : Option Value → pm_H → Prop} {x1 : Int32} {x2 : Int32} {x3 : Int32} {x4 : Int32} {x5 : Int32} {x6 : Int32} {x7 : Int32} {s0 : Int32} (h : vp_in (I 120 77) 121 ∧ vp_in (I 120 77) 121 ∧ Px (k + 1) 176 m_Mo_stage 152 [.ref 120, .int x1, .int x2, .int x3, .int x4, .int x5, .int x6, .int x7, .int s0, .int 0] [] (hp (pm_up (pm_up I 165 (((I 120 77) : Int32).toNatClampNeg) x1) 166 (((I 120 77) : Int32).toNatClampNeg) s0) J (pm_RT pa pb ga)) Q) : Px (k + 1) 176 m_Mo_stage 126 [.ref 120, .int x1, .int x2, .int x3, .int x4, .int x5, .int x6, .int x7, .null, .null] [.int s0] (hp I J (pm_RT pa pb ga)) Q := by
  refine x_t 128 rfl rfl rfl ?_
  refine x_l 129 rfl rfl rfl ?_
  refine z_gf 132 (.ref 165) rfl ⟨rfl, rfl, rfl⟩ rfl rfl ?_
  refine x_l 133 rfl rfl rfl ?_
  refine z_gf 136 (.int (I 120 77)) rfl ⟨rfl, rfl, rfl⟩ rfl rfl ?_
  refine x_l 137 rfl rfl rfl ?_
  have h1 := h.1
  have h := h.2
  refine z_is 138 121 rfl ⟨rfl, rfl, rfl⟩ rfl h1 rfl ?_
  refine x_l 139 rfl rfl rfl ?_
  refine z_gf 142 (.ref 166) rfl ⟨rfl, rfl, rfl⟩ rfl rfl ?_
  refine x_l 143 rfl rfl rfl ?_
  refine z_gf 146 (.int (I 120 77)) rfl ⟨rfl, rfl, rfl⟩ rfl rfl ?_
  refine x_l 148 rfl rfl rfl ?_
  have h1 := h.1
  have h := h.2
  refine z_is 149 121 rfl ⟨rfl, rfl, rfl⟩ rfl h1 rfl ?_
  refine z_k 150 0 rfl (by decide) rfl ?_
  refine x_t 152 rfl rfl rfl ?_
  exact h

theorem bk_Mo_stage_152 {k : Nat} {pa pb : Nat} {ga : Nat → Nat} {I : pm_II} {J : pm_JJ} {Q : Option Value → pm_H → Prop} {x1 : Int32} {x2 : Int32} {x3 : Int32} {x4 : Int32} {x5 : Int32} {x6 : Int32} {x7 : Int32} {x8 : Int32} {x9 : Int32} (h : ((x8 ≤ x9 → Px (k + 1) 176 m_Mo_stage 89 [.ref 120, .int x1, .int x2, .int x3, .int (x4 - x8), .int x5, .int x6, .int x7, .int x8, .int x9] [] (hp (pm_up I 120 77 ((I 120 77) + (1 : Int32))) J (pm_RT pa pb ga)) Q) ∧ (¬ (x8 ≤ x9) → vp_in x7 121 ∧ ((¬ (I 163 ((x7 : Int32).toNatClampNeg)) = (-1) → Px (k + 1) 176 m_Mo_stage 152 [.ref 120, .int x1, .int x2, .int x3, .int x4, .int x5, .int x6, .int (x7 + Int32.ofInt 1), .int x8, .int x9] [] (hp I J (pm_RT pa pb ga)) Q) ∧ (¬ (¬ (I 163 ((x7 : Int32).toNatClampNeg)) = (-1)) → ((¬ x9 = 0 → Px (k + 1) 176 m_Mo_stage 186 [.ref 120, .int x1, .int x2, .int x3, .int x4, .int x5, .int x6, .int x7, .int x8, .int x9] [] (hp I J (pm_RT pa pb ga)) Q) ∧ (¬ (¬ x9 = 0) → vp_in (I 120 77) 121 ∧ Px (k + 1) 176 m_Mo_stage 186 [.ref 120, .int x1, .int x2, .int x3, .int x4, .int x5, .int x6, .int x7, .int x8, .int x9] [] (hp (pm_up I 167 (((I 120 77) : Int32).toNatClampNeg) x7) J (pm_RT pa pb ga)) Q))))))) : Px (k + 1) 176 m_Mo_stage 152 [.ref 120, .int x1, .int x2, .int x3, .int x4, .int x5, .int x6, .int x7, .int x8, .int x9] [] (hp I J (pm_RT pa pb ga)) Q := by
  refine x_l 154 rfl rfl rfl ?_
  refine x_l 156 rfl rfl rfl ?_
  refine x_b 159 rfl rfl rfl (fun c => ?_) (fun c => ?_)
  · have h := h.1 c
    refine x_l 207 rfl rfl rfl ?_
    refine x_s 208 rfl rfl rfl ?_
    refine z_gf 211 (.int (I 120 77)) rfl ⟨rfl, rfl, rfl⟩ rfl rfl ?_
    refine z_k 212 1 rfl (by decide) rfl ?_
    refine x_s 213 rfl rfl rfl ?_
    refine z_pi 216 rfl (Or.inl rfl) rfl (fun z => by cases z) ⟨rfl, rfl, rfl⟩ rfl ?_
    refine x_l 218 rfl rfl rfl ?_
    refine x_l 220 rfl rfl rfl ?_
    refine x_s 221 rfl rfl rfl ?_
    refine x_t 223 rfl rfl rfl ?_
    refine x_g rfl ?_
    exact h
  · have h := h.2 c
    refine x_l 160 rfl rfl rfl ?_
    refine z_gf 163 (.ref 163) rfl ⟨rfl, rfl, rfl⟩ rfl rfl ?_
    refine x_l 165 rfl rfl rfl ?_
    have h1 := h.1
    have h := h.2
    refine z_il 166 121 rfl ⟨rfl, rfl, rfl⟩ rfl h1 rfl ?_
    refine z_k 167 (-1) rfl (by decide) rfl ?_
    refine x_b 170 rfl rfl rfl (fun c => ?_) (fun c => ?_)
    · have h := h.1 c
      refine x_t 203 rfl rfl rfl ?_
      refine x_g rfl ?_
      exact h
    · have h := h.2 c
      refine x_l 172 rfl rfl rfl ?_
      refine x_b 175 rfl rfl rfl (fun c => ?_) (fun c => ?_)
      · have h := h.1 c
        exact h
      · have h := h.2 c
        refine x_l 176 rfl rfl rfl ?_
        refine z_gf 179 (.ref 167) rfl ⟨rfl, rfl, rfl⟩ rfl rfl ?_
        refine x_l 180 rfl rfl rfl ?_
        refine z_gf 183 (.int (I 120 77)) rfl ⟨rfl, rfl, rfl⟩ rfl rfl ?_
        refine x_l 185 rfl rfl rfl ?_
        have h1 := h.1
        have h := h.2
        refine z_is 186 121 rfl ⟨rfl, rfl, rfl⟩ rfl h1 rfl ?_
        exact h

theorem bk_Mo_stage_186 {k : Nat} {pa pb : Nat} {ga : Nat → Nat} {I : pm_II} {J : pm_JJ} {Q : Option Value → pm_H → Prop} {x1 : Int32} {x2 : Int32} {x3 : Int32} {x4 : Int32} {x5 : Int32} {x6 : Int32} {x7 : Int32} {x8 : Int32} {x9 : Int32} (h : vp_in x7 121 ∧ Px (k + 1) 176 m_Mo_stage 152 [.ref 120, .int x1, .int x2, .int x3, .int x4, .int x5, .int x6, .int (x7 + Int32.ofInt 1), .int x8, .int (x9 + Int32.ofInt 1)] [] (hp (pm_up I 163 ((x7 : Int32).toNatClampNeg) (I 120 77)) J (pm_RT pa pb ga)) Q) : Px (k + 1) 176 m_Mo_stage 186 [.ref 120, .int x1, .int x2, .int x3, .int x4, .int x5, .int x6, .int x7, .int x8, .int x9] [] (hp I J (pm_RT pa pb ga)) Q := by
  refine x_l 187 rfl rfl rfl ?_
  refine z_gf 190 (.ref 163) rfl ⟨rfl, rfl, rfl⟩ rfl rfl ?_
  refine x_l 192 rfl rfl rfl ?_
  refine x_l 193 rfl rfl rfl ?_
  refine z_gf 196 (.int (I 120 77)) rfl ⟨rfl, rfl, rfl⟩ rfl rfl ?_
  have h1 := h.1
  have h := h.2
  refine z_is 197 121 rfl ⟨rfl, rfl, rfl⟩ rfl h1 rfl ?_
  refine x_t 200 rfl rfl rfl ?_
  refine x_t 203 rfl rfl rfl ?_
  refine x_g rfl ?_
  exact h

theorem bk_Mo_stage_226 {k : Nat} {pa pb : Nat} {ga : Nat → Nat} {I : pm_II} {J : pm_JJ} {Q : Option Value → pm_H → Prop} {x1 : Int32} {x2 : Int32} {x3 : Int32} {x4 : Int32} {x5 : Int32} {x6 : Int32} {x7 : Int32} (h : Px (k + 1) 176 m_Mo_stage 2 [.ref 120, .int x1, .int x2, .int x5, .int x4, .int x5, .int x6, .int x7, .null, .null] [] (hp I J (pm_RT pa pb ga)) Q) : Px (k + 1) 176 m_Mo_stage 226 [.ref 120, .int x1, .int x2, .int x3, .int x4, .int x5, .int x6, .int x7, .null, .null] [] (hp I J (pm_RT pa pb ga)) Q := by
  refine x_l 228 rfl rfl rfl ?_
  refine x_t 229 rfl rfl rfl ?_
  refine x_g rfl ?_
  exact h

theorem bk_Mo_bundles_0 {k : Nat} {pa pb : Nat} {ga : Nat → Nat} {I : pm_II} {J : pm_JJ} {Q : Option Value → pm_H → Prop} {x1 : Int32} {x2 : Int32} (h : Px k 176 m_Mo_is 0 [.int x1, .int 1, .int x2] [] (hp I J (pm_RT pa pb ga)) (fun r h' => h'.1 = 176 ∧ Px (k + 1) 176 m_Mo_bundles 6 [.ref 120, .int x1, .int x2] (r.toList ++ []) h' Q)) : Px (k + 1) 176 m_Mo_bundles 0 [.ref 120, .int x1, .int x2] [] (hp I J (pm_RT pa pb ga)) Q := by
  refine x_l 1 rfl rfl rfl ?_
  refine z_k 2 1 rfl (by decide) rfl ?_
  refine x_l 3 rfl rfl rfl ?_
  exact z_cs (As := [.int x1, .int 1, .int x2]) (rest := []) rfl at_Mo_is rfl rfl (Nat.le_of_ble_eq_true rfl) (Nat.le_of_ble_eq_true rfl) rfl h

theorem bk_Mo_bundles_6 {k : Nat} {pa pb : Nat} {ga : Nat → Nat} {I : pm_II} {J : pm_JJ} {Q : Option Value → pm_H → Prop} {x1 : Int32} {x2 : Int32} {s0 : Int32} (h : ((s0 = 0 → Q (some (.int (-1))) (hp I J (pm_RT pa pb ga))) ∧ (¬ (s0 = 0) → Px k 176 m_Mo_is 0 [.int x2, .int 1, .int 30] [] (hp I J (pm_RT pa pb ga)) (fun r h' => h'.1 = 176 ∧ Px (k + 1) 176 m_Mo_bundles 16 [.ref 120, .int x1, .int x2] (r.toList ++ []) h' Q)))) : Px (k + 1) 176 m_Mo_bundles 6 [.ref 120, .int x1, .int x2] [.int s0] (hp I J (pm_RT pa pb ga)) Q := by
  refine x_b 9 rfl rfl rfl (fun c => ?_) (fun c => ?_)
  · have h := h.1 c
    refine z_k 20 (-1) rfl (by decide) rfl ?_
    exact x_ri rfl (Or.inl rfl) h
  · have h := h.2 c
    refine x_l 10 rfl rfl rfl ?_
    refine z_k 11 1 rfl (by decide) rfl ?_
    refine z_k 13 30 rfl (by decide) rfl ?_
    exact z_cs (As := [.int x2, .int 1, .int 30]) (rest := []) rfl at_Mo_is rfl rfl (Nat.le_of_ble_eq_true rfl) (Nat.le_of_ble_eq_true rfl) rfl h

theorem bk_Mo_bundles_16 {k : Nat} {pa pb : Nat} {ga : Nat → Nat} {I : pm_II} {J : pm_JJ} {Q : Option Value → pm_H → Prop} {x1 : Int32} {x2 : Int32} {s0 : Int32} (h : ((¬ s0 = 0 → Px k 176 m_Mo_bundled 0 [.ref 120, .null, .null, .null] [] (hp (pm_up (pm_up I 120 75 x1) 120 76 x2) J (pm_RT pa pb ga)) (fun r h' => h'.1 = 176 ∧ Px (k + 1) 176 m_Mo_bundles 35 [.ref 120, .int x1, .int x2] (r.toList ++ []) h' Q)) ∧ (¬ (¬ s0 = 0) → Q (some (.int (-1))) (hp I J (pm_RT pa pb ga))))) : Px (k + 1) 176 m_Mo_bundles 16 [.ref 120, .int x1, .int x2] [.int s0] (hp I J (pm_RT pa pb ga)) Q := by
  refine x_b 19 rfl rfl rfl (fun c => ?_) (fun c => ?_)
  · have h := h.1 c
    refine x_l 22 rfl rfl rfl ?_
    refine x_l 23 rfl rfl rfl ?_
    refine z_pi 26 rfl (Or.inl rfl) rfl (fun z => by cases z) ⟨rfl, rfl, rfl⟩ rfl ?_
    refine x_l 27 rfl rfl rfl ?_
    refine x_l 28 rfl rfl rfl ?_
    refine z_pi 31 rfl (Or.inl rfl) rfl (fun z => by cases z) ⟨rfl, rfl, rfl⟩ rfl ?_
    refine x_l 32 rfl rfl rfl ?_
    exact z_cv (As := []) (rest := []) (b := 120) rfl at_Mo_bundled rfl rfl (Nat.le_of_ble_eq_true rfl) (Nat.le_of_ble_eq_true rfl) ⟨rfl, rfl, rfl⟩ (by decide) rfl h
  · have h := h.2 c
    refine z_k 20 (-1) rfl (by decide) rfl ?_
    exact x_ri rfl (Or.inl rfl) h

theorem bk_Mo_bundles_35 {k : Nat} {pa pb : Nat} {ga : Nat → Nat} {I : pm_II} {J : pm_JJ} {Q : Option Value → pm_H → Prop} {x1 : Int32} {x2 : Int32} (h : Q (some (.int (I 120 77))) (hp I J (pm_RT pa pb ga))) : Px (k + 1) 176 m_Mo_bundles 35 [.ref 120, .int x1, .int x2] [] (hp I J (pm_RT pa pb ga)) Q := by
  refine x_l 36 rfl rfl rfl ?_
  refine z_gf 39 (.int (I 120 77)) rfl ⟨rfl, rfl, rfl⟩ rfl rfl ?_
  exact x_ri rfl (Or.inl rfl) h

theorem bk_Mo_letter_0 {k : Nat} {pa pb : Nat} {ga : Nat → Nat} {I : pm_II} {J : pm_JJ} {Q : Option Value → pm_H → Prop} {x1 : Int32} {x2 : Int32} (h : Px k 176 m_Mo_is 0 [.int x1, .int 0, .int ((I 120 73) - (1 : Int32))] [] (hp I J (pm_RT pa pb ga)) (fun r h' => h'.1 = 176 ∧ Px (k + 1) 176 m_Mo_letter 11 [.ref 120, .int x1, .int x2, .null, .null, .null] (r.toList ++ []) h' Q)) : Px (k + 1) 176 m_Mo_letter 0 [.ref 120, .int x1, .int x2, .null, .null, .null] [] (hp I J (pm_RT pa pb ga)) Q := by
  refine x_l 1 rfl rfl rfl ?_
  refine z_k 2 0 rfl (by decide) rfl ?_
  refine x_l 3 rfl rfl rfl ?_
  refine z_gf 6 (.int (I 120 73)) rfl ⟨rfl, rfl, rfl⟩ rfl rfl ?_
  refine z_k 7 1 rfl (by decide) rfl ?_
  refine x_s 8 rfl rfl rfl ?_
  exact z_cs (As := [.int x1, .int 0, .int ((I 120 73) - (1 : Int32))]) (rest := []) rfl at_Mo_is rfl rfl (Nat.le_of_ble_eq_true rfl) (Nat.le_of_ble_eq_true rfl) rfl h

theorem bk_Mo_letter_11 {k : Nat} {pa pb : Nat} {ga : Nat → Nat} {I : pm_II} {J : pm_JJ} {Q : Option Value → pm_H → Prop} {x1 : Int32} {x2 : Int32} {s0 : Int32} (h : ((¬ s0 = 0 → vp_in x1 121 ∧ vp_in (I 164 ((x1 : Int32).toNatClampNeg)) 161 ∧ Px (k + 1) 176 m_Mo_letter 31 [.ref 120, .int x1, .int x2, .long (J 168 (((I 164 ((x1 : Int32).toNatClampNeg)) : Int32).toNatClampNeg)), .null, .int 0] [] (hp I J (pm_RT pa pb ga)) Q) ∧ (¬ (¬ s0 = 0) → Q (some (.int (-1))) (hp I J (pm_RT pa pb ga))))) : Px (k + 1) 176 m_Mo_letter 11 [.ref 120, .int x1, .int x2, .null, .null, .null] [.int s0] (hp I J (pm_RT pa pb ga)) Q := by
  refine x_b 14 rfl rfl rfl (fun c => ?_) (fun c => ?_)
  · have h := h.1 c
    refine x_l 17 rfl rfl rfl ?_
    refine z_gf 20 (.ref 168) rfl ⟨rfl, rfl, rfl⟩ rfl rfl ?_
    refine x_l 21 rfl rfl rfl ?_
    refine z_gf 24 (.ref 164) rfl ⟨rfl, rfl, rfl⟩ rfl rfl ?_
    refine x_l 25 rfl rfl rfl ?_
    have h1 := h.1
    have h := h.2
    refine z_il 26 121 rfl ⟨rfl, rfl, rfl⟩ rfl h1 rfl ?_
    have h1 := h.1
    have h := h.2
    refine z_jl 27 161 rfl ⟨rfl, rfl, rfl⟩ rfl h1 rfl ?_
    refine x_t 28 rfl rfl rfl ?_
    refine z_k 29 0 rfl (by decide) rfl ?_
    refine x_t 31 rfl rfl rfl ?_
    exact h
  · have h := h.2 c
    refine z_k 15 (-1) rfl (by decide) rfl ?_
    exact x_ri rfl (Or.inl rfl) h

theorem bk_Mo_letter_31 {k : Nat} {pa pb : Nat} {ga : Nat → Nat} {I : pm_II} {J : pm_JJ} {Q : Option Value → pm_H → Prop} {x1 : Int32} {x2 : Int32} {y3 : Int64} {x5 : Int32} (h : ((8 ≤ x5 → Px (k + 1) 176 m_Mo_letter 54 [.ref 120, .int x1, .int x2, .long y3, .null, .int x5] [] (hp I J (pm_RT pa pb ga)) Q) ∧ (¬ (8 ≤ x5) → Px k 176 m_Mo_nameByte 0 [.ref 120, .long y3, .null, .int x5] [] (hp I J (pm_RT pa pb ga)) (fun r h' => h'.1 = 176 ∧ Px (k + 1) 176 m_Mo_letter 45 [.ref 120, .int x1, .int x2, .long y3, .null, .int x5] (r.toList ++ []) h' Q)))) : Px (k + 1) 176 m_Mo_letter 31 [.ref 120, .int x1, .int x2, .long y3, .null, .int x5] [] (hp I J (pm_RT pa pb ga)) Q := by
  refine x_l 33 rfl rfl rfl ?_
  refine z_k 35 8 rfl (by decide) rfl ?_
  refine x_b 38 rfl rfl rfl (fun c => ?_) (fun c => ?_)
  · have h := h.1 c
    exact h
  · have h := h.2 c
    refine x_l 39 rfl rfl rfl ?_
    refine x_l 40 rfl rfl rfl ?_
    refine x_l 42 rfl rfl rfl ?_
    exact z_cv (As := [.long y3, .int x5]) (rest := []) (b := 120) rfl at_Mo_nameByte rfl rfl (Nat.le_of_ble_eq_true rfl) (Nat.le_of_ble_eq_true rfl) ⟨rfl, rfl, rfl⟩ (by decide) rfl h

theorem bk_Mo_letter_45 {k : Nat} {pa pb : Nat} {ga : Nat → Nat} {I : pm_II} {J : pm_JJ} {Q : Option Value → pm_H → Prop} {x1 : Int32} {x2 : Int32} {y3 : Int64} {x5 : Int32} {s0 : Int32} (h : ((s0 = 0 → Px (k + 1) 176 m_Mo_letter 54 [.ref 120, .int x1, .int x2, .long y3, .null, .int x5] [] (hp I J (pm_RT pa pb ga)) Q) ∧ (¬ (s0 = 0) → Px (k + 1) 176 m_Mo_letter 31 [.ref 120, .int x1, .int x2, .long y3, .null, .int (x5 + Int32.ofInt 1)] [] (hp I J (pm_RT pa pb ga)) Q))) : Px (k + 1) 176 m_Mo_letter 45 [.ref 120, .int x1, .int x2, .long y3, .null, .int x5] [.int s0] (hp I J (pm_RT pa pb ga)) Q := by
  refine x_b 48 rfl rfl rfl (fun c => ?_) (fun c => ?_)
  · have h := h.1 c
    exact h
  · have h := h.2 c
    refine x_t 51 rfl rfl rfl ?_
    refine x_g rfl ?_
    exact h

theorem bk_Mo_letter_54 {k : Nat} {pa pb : Nat} {ga : Nat → Nat} {I : pm_II} {J : pm_JJ} {Q : Option Value → pm_H → Prop} {x1 : Int32} {x2 : Int32} {y3 : Int64} {x5 : Int32} (h : ((x2 = nI 0 → vp_in x1 121 ∧ vp_in (I 164 ((x1 : Int32).toNatClampNeg)) 161 ∧ Q (some (.int (I 162 (((I 164 ((x1 : Int32).toNatClampNeg)) : Int32).toNatClampNeg)))) (hp I J (pm_RT pa pb ga))) ∧ (x2 = nI 1 → Q (some (.int x5)) (hp I J (pm_RT pa pb ga))) ∧ (x2 = nI 2 → vp_in x1 121 ∧ Q (some (.int (I 163 ((x1 : Int32).toNatClampNeg)))) (hp I J (pm_RT pa pb ga))) ∧ (x2 = nI 3 → vp_in x1 121 ∧ Q (some (.int (I 164 ((x1 : Int32).toNatClampNeg)))) (hp I J (pm_RT pa pb ga))) ∧ ((x2 < 0 ∨ nI 3 < x2) → Px k 176 m_Mo_is 0 [.int x2, .int 10, .int ((9 : Int32) + x5)] [] (hp I J (pm_RT pa pb ga)) (fun r h' => h'.1 = 176 ∧ Px (k + 1) 176 m_Mo_letter 124 [.ref 120, .int x1, .int x2, .long y3, .null, .int x5] (r.toList ++ []) h' Q)))) : Px (k + 1) 176 m_Mo_letter 54 [.ref 120, .int x1, .int x2, .long y3, .null, .int x5] [] (hp I J (pm_RT pa pb ga)) Q := by
  refine x_l 55 rfl rfl rfl ?_
  refine z_sw 3 (dt := 113) rfl rfl (by decide) (fun i hi e => ?_) (fun c => ?_)
  · match i, hi with
    | 0, _ =>
      refine ⟨_, 84, rfl, rfl, ?_⟩
      have h := h.1 e
      refine x_l 85 rfl rfl rfl ?_
      refine z_gf 88 (.ref 162) rfl ⟨rfl, rfl, rfl⟩ rfl rfl ?_
      refine x_l 89 rfl rfl rfl ?_
      refine z_gf 92 (.ref 164) rfl ⟨rfl, rfl, rfl⟩ rfl rfl ?_
      refine x_l 93 rfl rfl rfl ?_
      have h1 := h.1
      have h := h.2
      refine z_il 94 121 rfl ⟨rfl, rfl, rfl⟩ rfl h1 rfl ?_
      have h1 := h.1
      have h := h.2
      refine z_il 95 161 rfl ⟨rfl, rfl, rfl⟩ rfl h1 rfl ?_
      exact x_ri rfl (Or.inl rfl) h
    | 1, _ =>
      refine ⟨_, 96, rfl, rfl, ?_⟩
      have h := h.2.1 e
      refine x_l 98 rfl rfl rfl ?_
      exact x_ri rfl (Or.inl rfl) h
    | 2, _ =>
      refine ⟨_, 99, rfl, rfl, ?_⟩
      have h := h.2.2.1 e
      refine x_l 100 rfl rfl rfl ?_
      refine z_gf 103 (.ref 163) rfl ⟨rfl, rfl, rfl⟩ rfl rfl ?_
      refine x_l 104 rfl rfl rfl ?_
      have h1 := h.1
      have h := h.2
      refine z_il 105 121 rfl ⟨rfl, rfl, rfl⟩ rfl h1 rfl ?_
      exact x_ri rfl (Or.inl rfl) h
    | 3, _ =>
      refine ⟨_, 106, rfl, rfl, ?_⟩
      have h := h.2.2.2.1 e
      refine x_l 107 rfl rfl rfl ?_
      refine z_gf 110 (.ref 164) rfl ⟨rfl, rfl, rfl⟩ rfl rfl ?_
      refine x_l 111 rfl rfl rfl ?_
      have h1 := h.1
      have h := h.2
      refine z_il 112 121 rfl ⟨rfl, rfl, rfl⟩ rfl h1 rfl ?_
      exact x_ri rfl (Or.inl rfl) h
    | n + 4, hi => exact absurd hi (by omega)
  · have h := h.2.2.2.2 c
    refine x_l 114 rfl rfl rfl ?_
    refine z_k 116 10 rfl (by decide) rfl ?_
    refine z_k 118 9 rfl (by decide) rfl ?_
    refine x_l 120 rfl rfl rfl ?_
    refine x_s 121 rfl rfl rfl ?_
    exact z_cs (As := [.int x2, .int 10, .int ((9 : Int32) + x5)]) (rest := []) rfl at_Mo_is rfl rfl (Nat.le_of_ble_eq_true rfl) (Nat.le_of_ble_eq_true rfl) rfl h

theorem bk_Mo_letter_124 {k : Nat} {pa pb : Nat} {ga : Nat → Nat} {I : pm_II} {J : pm_JJ} {Q : Option Value → pm_H → Prop} {x1 : Int32} {x2 : Int32} {y3 : Int64} {x5 : Int32} {s0 : Int32} (h : ((s0 = 0 → Q (some (.int (-1))) (hp I J (pm_RT pa pb ga))) ∧ (¬ (s0 = 0) → Px k 176 m_Mo_nameByte 0 [.ref 120, .long y3, .null, .int (x2 - (10 : Int32))] [] (hp I J (pm_RT pa pb ga)) (fun r h' => h'.1 = 176 ∧ Px (k + 1) 176 m_Mo_letter 136 [.ref 120, .int x1, .int x2, .long y3, .null, .int x5] (r.toList ++ []) h' Q)))) : Px (k + 1) 176 m_Mo_letter 124 [.ref 120, .int x1, .int x2, .long y3, .null, .int x5] [.int s0] (hp I J (pm_RT pa pb ga)) Q := by
  refine x_b 127 rfl rfl rfl (fun c => ?_) (fun c => ?_)
  · have h := h.1 c
    refine z_k 140 (-1) rfl (by decide) rfl ?_
    exact x_ri rfl (Or.inl rfl) h
  · have h := h.2 c
    refine x_l 128 rfl rfl rfl ?_
    refine x_l 129 rfl rfl rfl ?_
    refine x_l 130 rfl rfl rfl ?_
    refine z_k 132 10 rfl (by decide) rfl ?_
    refine x_s 133 rfl rfl rfl ?_
    exact z_cv (As := [.long y3, .int (x2 - (10 : Int32))]) (rest := []) (b := 120) rfl at_Mo_nameByte rfl rfl (Nat.le_of_ble_eq_true rfl) (Nat.le_of_ble_eq_true rfl) ⟨rfl, rfl, rfl⟩ (by decide) rfl h

theorem bk_Mo_letter_136 {k : Nat} {pa pb : Nat} {ga : Nat → Nat} {I : pm_II} {J : pm_JJ} {Q : Option Value → pm_H → Prop} {x1 : Int32} {x2 : Int32} {y3 : Int64} {x5 : Int32} {s0 : Int32} (h : Q (some (.int s0)) (hp I J (pm_RT pa pb ga))) : Px (k + 1) 176 m_Mo_letter 136 [.ref 120, .int x1, .int x2, .long y3, .null, .int x5] [.int s0] (hp I J (pm_RT pa pb ga)) Q := by
  refine x_g rfl ?_
  exact x_ri rfl (Or.inl rfl) h

theorem bk_Mo_nameByte_0 {k : Nat} {pa pb : Nat} {ga : Nat → Nat} {I : pm_II} {J : pm_JJ} {Q : Option Value → pm_H → Prop} {y1 : Int64} {x3 : Int32} (h : ((8 ≤ x3 → Q (some (.int 0)) (hp I J (pm_RT pa pb ga))) ∧ (¬ (8 ≤ x3) → Q (some (.int (((y1 >>> ((((56 : Int32) - ((8 : Int32) * x3)) : Int32).toInt64 &&& 63)) &&& (Int64.ofNat 255)) : Int64).toInt32)) (hp I J (pm_RT pa pb ga))))) : Px k 176 m_Mo_nameByte 0 [.ref 120, .long y1, .null, .int x3] [] (hp I J (pm_RT pa pb ga)) Q := by
  refine x_l 1 rfl rfl rfl ?_
  refine z_k 3 8 rfl (by decide) rfl ?_
  refine x_b 6 rfl rfl rfl (fun c => ?_) (fun c => ?_)
  · have h := h.1 c
    refine z_k 24 0 rfl (by decide) rfl ?_
    exact x_ri rfl (Or.inl rfl) h
  · have h := h.2 c
    refine x_l 7 rfl rfl rfl ?_
    refine z_k 9 56 rfl (by decide) rfl ?_
    refine z_k 11 8 rfl (by decide) rfl ?_
    refine x_l 12 rfl rfl rfl ?_
    refine x_s 13 rfl rfl rfl ?_
    refine x_s 14 rfl rfl rfl ?_
    refine x_s 15 rfl rfl rfl ?_
    refine x_lj 18 rfl rfl ?_
    refine x_s 19 rfl rfl rfl ?_
    refine x_s 20 rfl rfl rfl ?_
    refine x_g rfl ?_
    exact x_ri rfl (Or.inl rfl) h

theorem bk_Mo_bundle_0 {k : Nat} {pa pb : Nat} {ga : Nat → Nat} {I : pm_II} {J : pm_JJ} {Q : Option Value → pm_H → Prop} {x1 : Int32} {x2 : Int32} (h : Px k 176 m_Mo_is 0 [.int x1, .int 0, .int ((I 120 77) - (1 : Int32))] [] (hp I J (pm_RT pa pb ga)) (fun r h' => h'.1 = 176 ∧ Px (k + 1) 176 m_Mo_bundle 11 [.ref 120, .int x1, .int x2] (r.toList ++ []) h' Q)) : Px (k + 1) 176 m_Mo_bundle 0 [.ref 120, .int x1, .int x2] [] (hp I J (pm_RT pa pb ga)) Q := by
  refine x_l 1 rfl rfl rfl ?_
  refine z_k 2 0 rfl (by decide) rfl ?_
  refine x_l 3 rfl rfl rfl ?_
  refine z_gf 6 (.int (I 120 77)) rfl ⟨rfl, rfl, rfl⟩ rfl rfl ?_
  refine z_k 7 1 rfl (by decide) rfl ?_
  refine x_s 8 rfl rfl rfl ?_
  exact z_cs (As := [.int x1, .int 0, .int ((I 120 77) - (1 : Int32))]) (rest := []) rfl at_Mo_is rfl rfl (Nat.le_of_ble_eq_true rfl) (Nat.le_of_ble_eq_true rfl) rfl h

theorem bk_Mo_bundle_11 {k : Nat} {pa pb : Nat} {ga : Nat → Nat} {I : pm_II} {J : pm_JJ} {Q : Option Value → pm_H → Prop} {x1 : Int32} {x2 : Int32} {s0 : Int32} (h : ((¬ s0 = 0 → ((x2 = nI 0 → vp_in x1 121 ∧ Q (some (.int (I 165 ((x1 : Int32).toNatClampNeg)))) (hp I J (pm_RT pa pb ga))) ∧ (x2 = nI 1 → vp_in x1 121 ∧ Q (some (.int (I 166 ((x1 : Int32).toNatClampNeg)))) (hp I J (pm_RT pa pb ga))) ∧ (x2 = nI 2 → vp_in x1 121 ∧ Q (some (.int (I 167 ((x1 : Int32).toNatClampNeg)))) (hp I J (pm_RT pa pb ga))) ∧ ((x2 < 0 ∨ nI 2 < x2) → Q (some (.int (-1))) (hp I J (pm_RT pa pb ga))))) ∧ (¬ (¬ s0 = 0) → Q (some (.int (-1))) (hp I J (pm_RT pa pb ga))))) : Px (k + 1) 176 m_Mo_bundle 11 [.ref 120, .int x1, .int x2] [.int s0] (hp I J (pm_RT pa pb ga)) Q := by
  refine x_b 14 rfl rfl rfl (fun c => ?_) (fun c => ?_)
  · have h := h.1 c
    refine x_l 17 rfl rfl rfl ?_
    refine z_sw 2 (dt := 65) rfl rfl (by decide) (fun i hi e => ?_) (fun c => ?_)
    · match i, hi with
      | 0, _ =>
        refine ⟨_, 44, rfl, rfl, ?_⟩
        have h := h.1 e
        refine x_l 45 rfl rfl rfl ?_
        refine z_gf 48 (.ref 165) rfl ⟨rfl, rfl, rfl⟩ rfl rfl ?_
        refine x_l 49 rfl rfl rfl ?_
        have h1 := h.1
        have h := h.2
        refine z_il 50 121 rfl ⟨rfl, rfl, rfl⟩ rfl h1 rfl ?_
        exact x_ri rfl (Or.inl rfl) h
      | 1, _ =>
        refine ⟨_, 51, rfl, rfl, ?_⟩
        have h := h.2.1 e
        refine x_l 52 rfl rfl rfl ?_
        refine z_gf 55 (.ref 166) rfl ⟨rfl, rfl, rfl⟩ rfl rfl ?_
        refine x_l 56 rfl rfl rfl ?_
        have h1 := h.1
        have h := h.2
        refine z_il 57 121 rfl ⟨rfl, rfl, rfl⟩ rfl h1 rfl ?_
        exact x_ri rfl (Or.inl rfl) h
      | 2, _ =>
        refine ⟨_, 58, rfl, rfl, ?_⟩
        have h := h.2.2.1 e
        refine x_l 59 rfl rfl rfl ?_
        refine z_gf 62 (.ref 167) rfl ⟨rfl, rfl, rfl⟩ rfl rfl ?_
        refine x_l 63 rfl rfl rfl ?_
        have h1 := h.1
        have h := h.2
        refine z_il 64 121 rfl ⟨rfl, rfl, rfl⟩ rfl h1 rfl ?_
        exact x_ri rfl (Or.inl rfl) h
      | n + 3, hi => exact absurd hi (by omega)
    · have h := h.2.2.2 c
      refine z_k 66 (-1) rfl (by decide) rfl ?_
      exact x_ri rfl (Or.inl rfl) h
  · have h := h.2 c
    refine z_k 15 (-1) rfl (by decide) rfl ?_
    exact x_ri rfl (Or.inl rfl) h

theorem bk_Mo_strike_0 {k : Nat} {pa pb : Nat} {ga : Nat → Nat} {I : pm_II} {J : pm_JJ} {Q : Option Value → pm_H → Prop} {x1 : Int32} (h : Px k 176 m_Mo_is 0 [.int x1, .int 0, .int ((I 120 73) - (1 : Int32))] [] (hp I J (pm_RT pa pb ga)) (fun r h' => h'.1 = 176 ∧ Px (k + 1) 176 m_Mo_strike 11 [.ref 120, .int x1, .null] (r.toList ++ []) h' Q)) : Px (k + 1) 176 m_Mo_strike 0 [.ref 120, .int x1, .null] [] (hp I J (pm_RT pa pb ga)) Q := by
  refine x_l 1 rfl rfl rfl ?_
  refine z_k 2 0 rfl (by decide) rfl ?_
  refine x_l 3 rfl rfl rfl ?_
  refine z_gf 6 (.int (I 120 73)) rfl ⟨rfl, rfl, rfl⟩ rfl rfl ?_
  refine z_k 7 1 rfl (by decide) rfl ?_
  refine x_s 8 rfl rfl rfl ?_
  exact z_cs (As := [.int x1, .int 0, .int ((I 120 73) - (1 : Int32))]) (rest := []) rfl at_Mo_is rfl rfl (Nat.le_of_ble_eq_true rfl) (Nat.le_of_ble_eq_true rfl) rfl h

theorem bk_Mo_strike_11 {k : Nat} {pa pb : Nat} {ga : Nat → Nat} {I : pm_II} {J : pm_JJ} {Q : Option Value → pm_H → Prop} {x1 : Int32} {s0 : Int32} (h : ((¬ s0 = 0 → vp_in x1 121 ∧ Px (k + 1) 176 m_Mo_strike 23 [.ref 120, .int x1, .int (I 164 ((x1 : Int32).toNatClampNeg))] [] (hp I J (pm_RT pa pb ga)) Q) ∧ (¬ (¬ s0 = 0) → Q (some (.int (-1))) (hp I J (pm_RT pa pb ga))))) : Px (k + 1) 176 m_Mo_strike 11 [.ref 120, .int x1, .null] [.int s0] (hp I J (pm_RT pa pb ga)) Q := by
  refine x_b 14 rfl rfl rfl (fun c => ?_) (fun c => ?_)
  · have h := h.1 c
    refine x_l 17 rfl rfl rfl ?_
    refine z_gf 20 (.ref 164) rfl ⟨rfl, rfl, rfl⟩ rfl rfl ?_
    refine x_l 21 rfl rfl rfl ?_
    have h1 := h.1
    have h := h.2
    refine z_il 22 121 rfl ⟨rfl, rfl, rfl⟩ rfl h1 rfl ?_
    refine x_t 23 rfl rfl rfl ?_
    exact h
  · have h := h.2 c
    refine z_k 15 (-1) rfl (by decide) rfl ?_
    exact x_ri rfl (Or.inl rfl) h

theorem bk_Mo_strike_23 {k : Nat} {pa pb : Nat} {ga : Nat → Nat} {I : pm_II} {J : pm_JJ} {Q : Option Value → pm_H → Prop} {x1 : Int32} {x2 : Int32} (h : (((I 120 73) ≤ (x2 + (1 : Int32)) → Px k 176 m_Mo_bundled 0 [.ref 120, .null, .null, .null] [] (hp (pm_up I 120 73 ((I 120 73) - (1 : Int32))) J (pm_RT pa pb ga)) (fun r h' => h'.1 = 176 ∧ Px (k + 1) 176 m_Mo_strike 81 [.ref 120, .int x1, .int x2] (r.toList ++ []) h' Q)) ∧ (¬ ((I 120 73) ≤ (x2 + (1 : Int32))) → vp_in (x2 + (1 : Int32)) 161 ∧ vp_in x2 161 ∧ vp_in (x2 + (1 : Int32)) 161 ∧ vp_in x2 161 ∧ Px (k + 1) 176 m_Mo_strike 23 [.ref 120, .int x1, .int (x2 + Int32.ofInt 1)] [] (hp (pm_up I 162 ((x2 : Int32).toNatClampNeg) (I 162 (((x2 + (1 : Int32)) : Int32).toNatClampNeg))) (pm_up J 168 ((x2 : Int32).toNatClampNeg) (J 168 (((x2 + (1 : Int32)) : Int32).toNatClampNeg))) (pm_RT pa pb ga)) Q))) : Px (k + 1) 176 m_Mo_strike 23 [.ref 120, .int x1, .int x2] [] (hp I J (pm_RT pa pb ga)) Q := by
  refine x_l 24 rfl rfl rfl ?_
  refine z_k 25 1 rfl (by decide) rfl ?_
  refine x_s 26 rfl rfl rfl ?_
  refine x_l 27 rfl rfl rfl ?_
  refine z_gf 30 (.int (I 120 73)) rfl ⟨rfl, rfl, rfl⟩ rfl rfl ?_
  refine x_b 33 rfl rfl rfl (fun c => ?_) (fun c => ?_)
  · have h := h.1 c
    refine x_l 68 rfl rfl rfl ?_
    refine x_s 69 rfl rfl rfl ?_
    refine z_gf 72 (.int (I 120 73)) rfl ⟨rfl, rfl, rfl⟩ rfl rfl ?_
    refine z_k 73 1 rfl (by decide) rfl ?_
    refine x_s 74 rfl rfl rfl ?_
    refine z_pi 77 rfl (Or.inl rfl) rfl (fun z => by cases z) ⟨rfl, rfl, rfl⟩ rfl ?_
    refine x_l 78 rfl rfl rfl ?_
    exact z_cv (As := []) (rest := []) (b := 120) rfl at_Mo_bundled rfl rfl (Nat.le_of_ble_eq_true rfl) (Nat.le_of_ble_eq_true rfl) ⟨rfl, rfl, rfl⟩ (by decide) rfl h
  · have h := h.2 c
    refine x_l 34 rfl rfl rfl ?_
    refine z_gf 37 (.ref 162) rfl ⟨rfl, rfl, rfl⟩ rfl rfl ?_
    refine x_l 38 rfl rfl rfl ?_
    refine x_l 39 rfl rfl rfl ?_
    refine z_gf 42 (.ref 162) rfl ⟨rfl, rfl, rfl⟩ rfl rfl ?_
    refine x_l 43 rfl rfl rfl ?_
    refine z_k 44 1 rfl (by decide) rfl ?_
    refine x_s 45 rfl rfl rfl ?_
    have h1 := h.1
    have h := h.2
    refine z_il 46 161 rfl ⟨rfl, rfl, rfl⟩ rfl h1 rfl ?_
    have h1 := h.1
    have h := h.2
    refine z_is 47 161 rfl ⟨rfl, rfl, rfl⟩ rfl h1 rfl ?_
    refine x_l 48 rfl rfl rfl ?_
    refine z_gf 51 (.ref 168) rfl ⟨rfl, rfl, rfl⟩ rfl rfl ?_
    refine x_l 52 rfl rfl rfl ?_
    refine x_l 53 rfl rfl rfl ?_
    refine z_gf 56 (.ref 168) rfl ⟨rfl, rfl, rfl⟩ rfl rfl ?_
    refine x_l 57 rfl rfl rfl ?_
    refine z_k 58 1 rfl (by decide) rfl ?_
    refine x_s 59 rfl rfl rfl ?_
    have h1 := h.1
    have h := h.2
    refine z_jl 60 161 rfl ⟨rfl, rfl, rfl⟩ rfl h1 rfl ?_
    have h1 := h.1
    have h := h.2
    refine z_js 61 161 rfl ⟨rfl, rfl, rfl⟩ rfl h1 rfl ?_
    refine x_t 64 rfl rfl rfl ?_
    refine x_g rfl ?_
    exact h

theorem bk_Mo_strike_81 {k : Nat} {pa pb : Nat} {ga : Nat → Nat} {I : pm_II} {J : pm_JJ} {Q : Option Value → pm_H → Prop} {x1 : Int32} {x2 : Int32} (h : Q (some (.int (I 120 73))) (hp I J (pm_RT pa pb ga))) : Px (k + 1) 176 m_Mo_strike 81 [.ref 120, .int x1, .int x2] [] (hp I J (pm_RT pa pb ga)) Q := by
  refine x_l 82 rfl rfl rfl ?_
  refine z_gf 85 (.int (I 120 73)) rfl ⟨rfl, rfl, rfl⟩ rfl rfl ?_
  exact x_ri rfl (Or.inl rfl) h

theorem bk_Mo_job_0 {k : Nat} {pa pb : Nat} {ga : Nat → Nat} {I : pm_II} {J : pm_JJ} {Q : Option Value → pm_H → Prop} {x1 : Int32} {x2 : Int32} {x3 : Int32} {x4 : Int32} (h : Px k 176 m_Mo_is 0 [.int x1, .int 0, .int 3] [] (hp I J (pm_RT pa pb ga)) (fun r h' => h'.1 = 176 ∧ Px (k + 1) 176 m_Mo_job 6 [.ref 120, .int x1, .int x2, .int x3, .int x4] (r.toList ++ []) h' Q)) : Px (k + 1) 176 m_Mo_job 0 [.ref 120, .int x1, .int x2, .int x3, .int x4] [] (hp I J (pm_RT pa pb ga)) Q := by
  refine x_l 1 rfl rfl rfl ?_
  refine z_k 2 0 rfl (by decide) rfl ?_
  refine z_k 3 3 rfl (by decide) rfl ?_
  exact z_cs (As := [.int x1, .int 0, .int 3]) (rest := []) rfl at_Mo_is rfl rfl (Nat.le_of_ble_eq_true rfl) (Nat.le_of_ble_eq_true rfl) rfl h

theorem bk_Mo_job_6 {k : Nat} {pa pb : Nat} {ga : Nat → Nat} {I : pm_II} {J : pm_JJ} {Q : Option Value → pm_H → Prop} {x1 : Int32} {x2 : Int32} {x3 : Int32} {x4 : Int32} {s0 : Int32} (h : ((s0 = 0 → Q (some (.int (-1))) (hp I J (pm_RT pa pb ga))) ∧ (¬ (s0 = 0) → Px k 176 m_Mo_is 0 [.int x2, .int 1, .int 99] [] (hp I J (pm_RT pa pb ga)) (fun r h' => h'.1 = 176 ∧ Px (k + 1) 176 m_Mo_job 16 [.ref 120, .int x1, .int x2, .int x3, .int x4] (r.toList ++ []) h' Q)))) : Px (k + 1) 176 m_Mo_job 6 [.ref 120, .int x1, .int x2, .int x3, .int x4] [.int s0] (hp I J (pm_RT pa pb ga)) Q := by
  refine x_b 9 rfl rfl rfl (fun c => ?_) (fun c => ?_)
  · have h := h.1 c
    refine z_k 42 (-1) rfl (by decide) rfl ?_
    exact x_ri rfl (Or.inl rfl) h
  · have h := h.2 c
    refine x_l 10 rfl rfl rfl ?_
    refine z_k 11 1 rfl (by decide) rfl ?_
    refine z_k 13 99 rfl (by decide) rfl ?_
    exact z_cs (As := [.int x2, .int 1, .int 99]) (rest := []) rfl at_Mo_is rfl rfl (Nat.le_of_ble_eq_true rfl) (Nat.le_of_ble_eq_true rfl) rfl h

theorem bk_Mo_job_16 {k : Nat} {pa pb : Nat} {ga : Nat → Nat} {I : pm_II} {J : pm_JJ} {Q : Option Value → pm_H → Prop} {x1 : Int32} {x2 : Int32} {x3 : Int32} {x4 : Int32} {s0 : Int32} (h : ((s0 = 0 → Q (some (.int (-1))) (hp I J (pm_RT pa pb ga))) ∧ (¬ (s0 = 0) → Px k 176 m_Mo_is 0 [.int x3, .int 1, .int 99] [] (hp I J (pm_RT pa pb ga)) (fun r h' => h'.1 = 176 ∧ Px (k + 1) 176 m_Mo_job 26 [.ref 120, .int x1, .int x2, .int x3, .int x4] (r.toList ++ []) h' Q)))) : Px (k + 1) 176 m_Mo_job 16 [.ref 120, .int x1, .int x2, .int x3, .int x4] [.int s0] (hp I J (pm_RT pa pb ga)) Q := by
  refine x_b 19 rfl rfl rfl (fun c => ?_) (fun c => ?_)
  · have h := h.1 c
    refine z_k 42 (-1) rfl (by decide) rfl ?_
    exact x_ri rfl (Or.inl rfl) h
  · have h := h.2 c
    refine x_l 20 rfl rfl rfl ?_
    refine z_k 21 1 rfl (by decide) rfl ?_
    refine z_k 23 99 rfl (by decide) rfl ?_
    exact z_cs (As := [.int x3, .int 1, .int 99]) (rest := []) rfl at_Mo_is rfl rfl (Nat.le_of_ble_eq_true rfl) (Nat.le_of_ble_eq_true rfl) rfl h

theorem bk_Mo_job_26 {k : Nat} {pa pb : Nat} {ga : Nat → Nat} {I : pm_II} {J : pm_JJ} {Q : Option Value → pm_H → Prop} {x1 : Int32} {x2 : Int32} {x3 : Int32} {x4 : Int32} {s0 : Int32} (h : ((s0 = 0 → Q (some (.int (-1))) (hp I J (pm_RT pa pb ga))) ∧ (¬ (s0 = 0) → Px k 176 m_Mo_is 0 [.int x4, .int 0, .int 999] [] (hp I J (pm_RT pa pb ga)) (fun r h' => h'.1 = 176 ∧ Px (k + 1) 176 m_Mo_job 38 [.ref 120, .int x1, .int x2, .int x3, .int x4] (r.toList ++ []) h' Q)))) : Px (k + 1) 176 m_Mo_job 26 [.ref 120, .int x1, .int x2, .int x3, .int x4] [.int s0] (hp I J (pm_RT pa pb ga)) Q := by
  refine x_b 29 rfl rfl rfl (fun c => ?_) (fun c => ?_)
  · have h := h.1 c
    refine z_k 42 (-1) rfl (by decide) rfl ?_
    exact x_ri rfl (Or.inl rfl) h
  · have h := h.2 c
    refine x_l 31 rfl rfl rfl ?_
    refine z_k 32 0 rfl (by decide) rfl ?_
    refine z_k 35 999 rfl (by decide) rfl ?_
    exact z_cs (As := [.int x4, .int 0, .int 999]) (rest := []) rfl at_Mo_is rfl rfl (Nat.le_of_ble_eq_true rfl) (Nat.le_of_ble_eq_true rfl) rfl h

theorem bk_Mo_job_38 {k : Nat} {pa pb : Nat} {ga : Nat → Nat} {I : pm_II} {J : pm_JJ} {Q : Option Value → pm_H → Prop} {x1 : Int32} {x2 : Int32} {x3 : Int32} {x4 : Int32} {s0 : Int32} (h : ((¬ s0 = 0 → ((¬ (I 120 85) = 6 → vp_in (I 120 85) 6 ∧ vp_in (I 120 85) 6 ∧ vp_in (I 120 85) 6 ∧ vp_in (I 120 85) 6 ∧ Px k 176 m_Mo_ordered 0 [.ref 120] [] (hp (pm_up (pm_up (pm_up (pm_up (pm_up I 169 (((I 120 85) : Int32).toNatClampNeg) x1) 170 (((I 120 85) : Int32).toNatClampNeg) x2) 171 (((I 120 85) : Int32).toNatClampNeg) x3) 172 (((I 120 85) : Int32).toNatClampNeg) x4) 120 85 ((I 120 85) + (1 : Int32))) J (pm_RT pa pb ga)) (fun r h' => h'.1 = 176 ∧ Px (k + 1) 176 m_Mo_job 110 [.ref 120, .int x1, .int x2, .int x3, .int x4] (r.toList ++ []) h' Q)) ∧ (¬ (¬ (I 120 85) = 6) → Q (some (.int (-4))) (hp I J (pm_RT pa pb ga))))) ∧ (¬ (¬ s0 = 0) → Q (some (.int (-1))) (hp I J (pm_RT pa pb ga))))) : Px (k + 1) 176 m_Mo_job 38 [.ref 120, .int x1, .int x2, .int x3, .int x4] [.int s0] (hp I J (pm_RT pa pb ga)) Q := by
  refine x_b 41 rfl rfl rfl (fun c => ?_) (fun c => ?_)
  · have h := h.1 c
    refine x_l 44 rfl rfl rfl ?_
    refine z_gf 47 (.int (I 120 85)) rfl ⟨rfl, rfl, rfl⟩ rfl rfl ?_
    refine z_k 49 6 rfl (by decide) rfl ?_
    refine x_b 52 rfl rfl rfl (fun c => ?_) (fun c => ?_)
    · have h := h.1 c
      refine x_l 56 rfl rfl rfl ?_
      refine z_gf 59 (.ref 169) rfl ⟨rfl, rfl, rfl⟩ rfl rfl ?_
      refine x_l 60 rfl rfl rfl ?_
      refine z_gf 63 (.int (I 120 85)) rfl ⟨rfl, rfl, rfl⟩ rfl rfl ?_
      refine x_l 64 rfl rfl rfl ?_
      have h1 := h.1
      have h := h.2
      refine z_is 65 6 rfl ⟨rfl, rfl, rfl⟩ rfl h1 rfl ?_
      refine x_l 66 rfl rfl rfl ?_
      refine z_gf 69 (.ref 170) rfl ⟨rfl, rfl, rfl⟩ rfl rfl ?_
      refine x_l 70 rfl rfl rfl ?_
      refine z_gf 73 (.int (I 120 85)) rfl ⟨rfl, rfl, rfl⟩ rfl rfl ?_
      refine x_l 74 rfl rfl rfl ?_
      have h1 := h.1
      have h := h.2
      refine z_is 75 6 rfl ⟨rfl, rfl, rfl⟩ rfl h1 rfl ?_
      refine x_l 76 rfl rfl rfl ?_
      refine z_gf 79 (.ref 171) rfl ⟨rfl, rfl, rfl⟩ rfl rfl ?_
      refine x_l 80 rfl rfl rfl ?_
      refine z_gf 83 (.int (I 120 85)) rfl ⟨rfl, rfl, rfl⟩ rfl rfl ?_
      refine x_l 84 rfl rfl rfl ?_
      have h1 := h.1
      have h := h.2
      refine z_is 85 6 rfl ⟨rfl, rfl, rfl⟩ rfl h1 rfl ?_
      refine x_l 86 rfl rfl rfl ?_
      refine z_gf 89 (.ref 172) rfl ⟨rfl, rfl, rfl⟩ rfl rfl ?_
      refine x_l 90 rfl rfl rfl ?_
      refine z_gf 93 (.int (I 120 85)) rfl ⟨rfl, rfl, rfl⟩ rfl rfl ?_
      refine x_l 95 rfl rfl rfl ?_
      have h1 := h.1
      have h := h.2
      refine z_is 96 6 rfl ⟨rfl, rfl, rfl⟩ rfl h1 rfl ?_
      refine x_l 97 rfl rfl rfl ?_
      refine x_s 98 rfl rfl rfl ?_
      refine z_gf 101 (.int (I 120 85)) rfl ⟨rfl, rfl, rfl⟩ rfl rfl ?_
      refine z_k 102 1 rfl (by decide) rfl ?_
      refine x_s 103 rfl rfl rfl ?_
      refine z_pi 106 rfl (Or.inl rfl) rfl (fun z => by cases z) ⟨rfl, rfl, rfl⟩ rfl ?_
      refine x_l 107 rfl rfl rfl ?_
      exact z_cv (As := []) (rest := []) (b := 120) rfl at_Mo_ordered rfl rfl (Nat.le_of_ble_eq_true rfl) (Nat.le_of_ble_eq_true rfl) ⟨rfl, rfl, rfl⟩ (by decide) rfl h
    · have h := h.2 c
      refine z_k 54 (-4) rfl (by decide) rfl ?_
      exact x_ri rfl (Or.inl rfl) h
  · have h := h.2 c
    refine z_k 42 (-1) rfl (by decide) rfl ?_
    exact x_ri rfl (Or.inl rfl) h

theorem bk_Mo_job_110 {k : Nat} {pa pb : Nat} {ga : Nat → Nat} {I : pm_II} {J : pm_JJ} {Q : Option Value → pm_H → Prop} {x1 : Int32} {x2 : Int32} {x3 : Int32} {x4 : Int32} (h : Q (some (.int ((I 120 85) - (1 : Int32)))) (hp I J (pm_RT pa pb ga))) : Px (k + 1) 176 m_Mo_job 110 [.ref 120, .int x1, .int x2, .int x3, .int x4] [] (hp I J (pm_RT pa pb ga)) Q := by
  refine x_l 111 rfl rfl rfl ?_
  refine z_gf 114 (.int (I 120 85)) rfl ⟨rfl, rfl, rfl⟩ rfl rfl ?_
  refine z_k 115 1 rfl (by decide) rfl ?_
  refine x_s 116 rfl rfl rfl ?_
  exact x_ri rfl (Or.inl rfl) h

theorem bk_Mo_ordered_0 {k : Nat} {pa pb : Nat} {ga : Nat → Nat} {I : pm_II} {J : pm_JJ} {Q : Option Value → pm_H → Prop} (h : Q none (hp (pm_up I 120 91 0) J (pm_RT pa pb ga))) : Px k 176 m_Mo_ordered 0 [.ref 120] [] (hp I J (pm_RT pa pb ga)) Q := by
  refine x_l 1 rfl rfl rfl ?_
  refine z_k 2 0 rfl (by decide) rfl ?_
  refine z_pi 5 rfl (Or.inr rfl) rfl (fun _ => Or.inl rfl) ⟨rfl, rfl, rfl⟩ rfl ?_
  exact x_rv rfl rfl h

theorem bk_Mo_times_0 {k : Nat} {pa pb : Nat} {ga : Nat → Nat} {I : pm_II} {J : pm_JJ} {Q : Option Value → pm_H → Prop} {x1 : Int32} {x2 : Int32} (h : Px k 176 m_Mo_is 0 [.int x1, .int 0, .int 50] [] (hp I J (pm_RT pa pb ga)) (fun r h' => h'.1 = 176 ∧ Px (k + 1) 176 m_Mo_times 7 [.ref 120, .int x1, .int x2] (r.toList ++ []) h' Q)) : Px (k + 1) 176 m_Mo_times 0 [.ref 120, .int x1, .int x2] [] (hp I J (pm_RT pa pb ga)) Q := by
  refine x_l 1 rfl rfl rfl ?_
  refine z_k 2 0 rfl (by decide) rfl ?_
  refine z_k 4 50 rfl (by decide) rfl ?_
  exact z_cs (As := [.int x1, .int 0, .int 50]) (rest := []) rfl at_Mo_is rfl rfl (Nat.le_of_ble_eq_true rfl) (Nat.le_of_ble_eq_true rfl) rfl h

theorem bk_Mo_times_7 {k : Nat} {pa pb : Nat} {ga : Nat → Nat} {I : pm_II} {J : pm_JJ} {Q : Option Value → pm_H → Prop} {x1 : Int32} {x2 : Int32} {s0 : Int32} (h : ((s0 = 0 → Q (some (.int (-1))) (hp I J (pm_RT pa pb ga))) ∧ (¬ (s0 = 0) → Px k 176 m_Mo_is 0 [.int x2, .int 0, .int 50] [] (hp I J (pm_RT pa pb ga)) (fun r h' => h'.1 = 176 ∧ Px (k + 1) 176 m_Mo_times 17 [.ref 120, .int x1, .int x2] (r.toList ++ []) h' Q)))) : Px (k + 1) 176 m_Mo_times 7 [.ref 120, .int x1, .int x2] [.int s0] (hp I J (pm_RT pa pb ga)) Q := by
  refine x_b 10 rfl rfl rfl (fun c => ?_) (fun c => ?_)
  · have h := h.1 c
    refine z_k 21 (-1) rfl (by decide) rfl ?_
    exact x_ri rfl (Or.inl rfl) h
  · have h := h.2 c
    refine x_l 11 rfl rfl rfl ?_
    refine z_k 12 0 rfl (by decide) rfl ?_
    refine z_k 14 50 rfl (by decide) rfl ?_
    exact z_cs (As := [.int x2, .int 0, .int 50]) (rest := []) rfl at_Mo_is rfl rfl (Nat.le_of_ble_eq_true rfl) (Nat.le_of_ble_eq_true rfl) rfl h

theorem bk_Mo_times_17 {k : Nat} {pa pb : Nat} {ga : Nat → Nat} {I : pm_II} {J : pm_JJ} {Q : Option Value → pm_H → Prop} {x1 : Int32} {x2 : Int32} {s0 : Int32} (h : ((¬ s0 = 0 → Px k 176 m_Mo_ordered 0 [.ref 120] [] (hp (pm_up (pm_up I 120 86 x1) 120 87 x2) J (pm_RT pa pb ga)) (fun r h' => h'.1 = 176 ∧ Px (k + 1) 176 m_Mo_times 36 [.ref 120, .int x1, .int x2] (r.toList ++ []) h' Q)) ∧ (¬ (¬ s0 = 0) → Q (some (.int (-1))) (hp I J (pm_RT pa pb ga))))) : Px (k + 1) 176 m_Mo_times 17 [.ref 120, .int x1, .int x2] [.int s0] (hp I J (pm_RT pa pb ga)) Q := by
  refine x_b 20 rfl rfl rfl (fun c => ?_) (fun c => ?_)
  · have h := h.1 c
    refine x_l 23 rfl rfl rfl ?_
    refine x_l 24 rfl rfl rfl ?_
    refine z_pi 27 rfl (Or.inl rfl) rfl (fun z => by cases z) ⟨rfl, rfl, rfl⟩ rfl ?_
    refine x_l 28 rfl rfl rfl ?_
    refine x_l 29 rfl rfl rfl ?_
    refine z_pi 32 rfl (Or.inl rfl) rfl (fun z => by cases z) ⟨rfl, rfl, rfl⟩ rfl ?_
    refine x_l 33 rfl rfl rfl ?_
    exact z_cv (As := []) (rest := []) (b := 120) rfl at_Mo_ordered rfl rfl (Nat.le_of_ble_eq_true rfl) (Nat.le_of_ble_eq_true rfl) ⟨rfl, rfl, rfl⟩ (by decide) rfl h
  · have h := h.2 c
    refine z_k 21 (-1) rfl (by decide) rfl ?_
    exact x_ri rfl (Or.inl rfl) h

theorem bk_Mo_times_36 {k : Nat} {pa pb : Nat} {ga : Nat → Nat} {I : pm_II} {J : pm_JJ} {Q : Option Value → pm_H → Prop} {x1 : Int32} {x2 : Int32} (h : Q (some (.int 1)) (hp I J (pm_RT pa pb ga))) : Px (k + 1) 176 m_Mo_times 36 [.ref 120, .int x1, .int x2] [] (hp I J (pm_RT pa pb ga)) Q := by
  refine z_k 37 1 rfl (by decide) rfl ?_
  exact x_ri rfl (Or.inl rfl) h

theorem bk_Mo_drop_0 {k : Nat} {pa pb : Nat} {ga : Nat → Nat} {I : pm_II} {J : pm_JJ} {Q : Option Value → pm_H → Prop} {x1 : Int32} (h : Px k 176 m_Mo_is 0 [.int x1, .int 0, .int ((I 120 85) - (1 : Int32))] [] (hp I J (pm_RT pa pb ga)) (fun r h' => h'.1 = 176 ∧ Px (k + 1) 176 m_Mo_drop 11 [.ref 120, .int x1, .null] (r.toList ++ []) h' Q)) : Px (k + 1) 176 m_Mo_drop 0 [.ref 120, .int x1, .null] [] (hp I J (pm_RT pa pb ga)) Q := by
  refine x_l 1 rfl rfl rfl ?_
  refine z_k 2 0 rfl (by decide) rfl ?_
  refine x_l 3 rfl rfl rfl ?_
  refine z_gf 6 (.int (I 120 85)) rfl ⟨rfl, rfl, rfl⟩ rfl rfl ?_
  refine z_k 7 1 rfl (by decide) rfl ?_
  refine x_s 8 rfl rfl rfl ?_
  exact z_cs (As := [.int x1, .int 0, .int ((I 120 85) - (1 : Int32))]) (rest := []) rfl at_Mo_is rfl rfl (Nat.le_of_ble_eq_true rfl) (Nat.le_of_ble_eq_true rfl) rfl h

theorem bk_Mo_drop_11 {k : Nat} {pa pb : Nat} {ga : Nat → Nat} {I : pm_II} {J : pm_JJ} {Q : Option Value → pm_H → Prop} {x1 : Int32} {s0 : Int32} (h : ((¬ s0 = 0 → Px (k + 1) 176 m_Mo_drop 18 [.ref 120, .int x1, .int x1] [] (hp I J (pm_RT pa pb ga)) Q) ∧ (¬ (¬ s0 = 0) → Q (some (.int (-1))) (hp I J (pm_RT pa pb ga))))) : Px (k + 1) 176 m_Mo_drop 11 [.ref 120, .int x1, .null] [.int s0] (hp I J (pm_RT pa pb ga)) Q := by
  refine x_b 14 rfl rfl rfl (fun c => ?_) (fun c => ?_)
  · have h := h.1 c
    refine x_l 17 rfl rfl rfl ?_
    refine x_t 18 rfl rfl rfl ?_
    exact h
  · have h := h.2 c
    refine z_k 15 (-1) rfl (by decide) rfl ?_
    exact x_ri rfl (Or.inl rfl) h

theorem bk_Mo_drop_18 {k : Nat} {pa pb : Nat} {ga : Nat → Nat} {I : pm_II} {J : pm_JJ} {Q : Option Value → pm_H → Prop} {x1 : Int32} {x2 : Int32} (h : (((I 120 85) ≤ (x2 + (1 : Int32)) → Px k 176 m_Mo_ordered 0 [.ref 120] [] (hp (pm_up I 120 85 ((I 120 85) - (1 : Int32))) J (pm_RT pa pb ga)) (fun r h' => h'.1 = 176 ∧ Px (k + 1) 176 m_Mo_drop 104 [.ref 120, .int x1, .int x2] (r.toList ++ []) h' Q)) ∧ (¬ ((I 120 85) ≤ (x2 + (1 : Int32))) → vp_in (x2 + (1 : Int32)) 6 ∧ vp_in x2 6 ∧ vp_in (x2 + (1 : Int32)) 6 ∧ vp_in x2 6 ∧ vp_in (x2 + (1 : Int32)) 6 ∧ vp_in x2 6 ∧ vp_in (x2 + (1 : Int32)) 6 ∧ vp_in x2 6 ∧ Px (k + 1) 176 m_Mo_drop 18 [.ref 120, .int x1, .int (x2 + Int32.ofInt 1)] [] (hp (pm_up (pm_up (pm_up (pm_up I 169 ((x2 : Int32).toNatClampNeg) (I 169 (((x2 + (1 : Int32)) : Int32).toNatClampNeg))) 170 ((x2 : Int32).toNatClampNeg) (I 170 (((x2 + (1 : Int32)) : Int32).toNatClampNeg))) 171 ((x2 : Int32).toNatClampNeg) (I 171 (((x2 + (1 : Int32)) : Int32).toNatClampNeg))) 172 ((x2 : Int32).toNatClampNeg) (I 172 (((x2 + (1 : Int32)) : Int32).toNatClampNeg))) J (pm_RT pa pb ga)) Q))) : Px (k + 1) 176 m_Mo_drop 18 [.ref 120, .int x1, .int x2] [] (hp I J (pm_RT pa pb ga)) Q := by
  refine x_l 19 rfl rfl rfl ?_
  refine z_k 20 1 rfl (by decide) rfl ?_
  refine x_s 21 rfl rfl rfl ?_
  refine x_l 22 rfl rfl rfl ?_
  refine z_gf 25 (.int (I 120 85)) rfl ⟨rfl, rfl, rfl⟩ rfl rfl ?_
  refine x_b 28 rfl rfl rfl (fun c => ?_) (fun c => ?_)
  · have h := h.1 c
    refine x_l 91 rfl rfl rfl ?_
    refine x_s 92 rfl rfl rfl ?_
    refine z_gf 95 (.int (I 120 85)) rfl ⟨rfl, rfl, rfl⟩ rfl rfl ?_
    refine z_k 96 1 rfl (by decide) rfl ?_
    refine x_s 97 rfl rfl rfl ?_
    refine z_pi 100 rfl (Or.inl rfl) rfl (fun z => by cases z) ⟨rfl, rfl, rfl⟩ rfl ?_
    refine x_l 101 rfl rfl rfl ?_
    exact z_cv (As := []) (rest := []) (b := 120) rfl at_Mo_ordered rfl rfl (Nat.le_of_ble_eq_true rfl) (Nat.le_of_ble_eq_true rfl) ⟨rfl, rfl, rfl⟩ (by decide) rfl h
  · have h := h.2 c
    refine x_l 29 rfl rfl rfl ?_
    refine z_gf 32 (.ref 169) rfl ⟨rfl, rfl, rfl⟩ rfl rfl ?_
    refine x_l 33 rfl rfl rfl ?_
    refine x_l 34 rfl rfl rfl ?_
    refine z_gf 37 (.ref 169) rfl ⟨rfl, rfl, rfl⟩ rfl rfl ?_
    refine x_l 38 rfl rfl rfl ?_
    refine z_k 39 1 rfl (by decide) rfl ?_
    refine x_s 40 rfl rfl rfl ?_
    have h1 := h.1
    have h := h.2
    refine z_il 41 6 rfl ⟨rfl, rfl, rfl⟩ rfl h1 rfl ?_
    have h1 := h.1
    have h := h.2
    refine z_is 42 6 rfl ⟨rfl, rfl, rfl⟩ rfl h1 rfl ?_
    refine x_l 43 rfl rfl rfl ?_
    refine z_gf 46 (.ref 170) rfl ⟨rfl, rfl, rfl⟩ rfl rfl ?_
    refine x_l 47 rfl rfl rfl ?_
    refine x_l 48 rfl rfl rfl ?_
    refine z_gf 51 (.ref 170) rfl ⟨rfl, rfl, rfl⟩ rfl rfl ?_
    refine x_l 52 rfl rfl rfl ?_
    refine z_k 53 1 rfl (by decide) rfl ?_
    refine x_s 54 rfl rfl rfl ?_
    have h1 := h.1
    have h := h.2
    refine z_il 55 6 rfl ⟨rfl, rfl, rfl⟩ rfl h1 rfl ?_
    have h1 := h.1
    have h := h.2
    refine z_is 56 6 rfl ⟨rfl, rfl, rfl⟩ rfl h1 rfl ?_
    refine x_l 57 rfl rfl rfl ?_
    refine z_gf 60 (.ref 171) rfl ⟨rfl, rfl, rfl⟩ rfl rfl ?_
    refine x_l 61 rfl rfl rfl ?_
    refine x_l 62 rfl rfl rfl ?_
    refine z_gf 65 (.ref 171) rfl ⟨rfl, rfl, rfl⟩ rfl rfl ?_
    refine x_l 66 rfl rfl rfl ?_
    refine z_k 67 1 rfl (by decide) rfl ?_
    refine x_s 68 rfl rfl rfl ?_
    have h1 := h.1
    have h := h.2
    refine z_il 69 6 rfl ⟨rfl, rfl, rfl⟩ rfl h1 rfl ?_
    have h1 := h.1
    have h := h.2
    refine z_is 70 6 rfl ⟨rfl, rfl, rfl⟩ rfl h1 rfl ?_
    refine x_l 71 rfl rfl rfl ?_
    refine z_gf 74 (.ref 172) rfl ⟨rfl, rfl, rfl⟩ rfl rfl ?_
    refine x_l 75 rfl rfl rfl ?_
    refine x_l 76 rfl rfl rfl ?_
    refine z_gf 79 (.ref 172) rfl ⟨rfl, rfl, rfl⟩ rfl rfl ?_
    refine x_l 80 rfl rfl rfl ?_
    refine z_k 81 1 rfl (by decide) rfl ?_
    refine x_s 82 rfl rfl rfl ?_
    have h1 := h.1
    have h := h.2
    refine z_il 83 6 rfl ⟨rfl, rfl, rfl⟩ rfl h1 rfl ?_
    have h1 := h.1
    have h := h.2
    refine z_is 84 6 rfl ⟨rfl, rfl, rfl⟩ rfl h1 rfl ?_
    refine x_t 87 rfl rfl rfl ?_
    refine x_g rfl ?_
    exact h

theorem bk_Mo_drop_104 {k : Nat} {pa pb : Nat} {ga : Nat → Nat} {I : pm_II} {J : pm_JJ} {Q : Option Value → pm_H → Prop} {x1 : Int32} {x2 : Int32} (h : Q (some (.int (I 120 85))) (hp I J (pm_RT pa pb ga))) : Px (k + 1) 176 m_Mo_drop 104 [.ref 120, .int x1, .int x2] [] (hp I J (pm_RT pa pb ga)) Q := by
  refine x_l 105 rfl rfl rfl ?_
  refine z_gf 108 (.int (I 120 85)) rfl ⟨rfl, rfl, rfl⟩ rfl rfl ?_
  exact x_ri rfl (Or.inl rfl) h

theorem bk_Mo_order_0 {k : Nat} {pa pb : Nat} {ga : Nat → Nat} {I : pm_II} {J : pm_JJ} {Q : Option Value → pm_H → Prop} {x1 : Int32} (h : Px k 176 m_Mo_findOrder 0 [.ref 120, .null, .null, .null, .null, .null, .null, .null, .null] [] (hp I J (pm_RT pa pb ga)) (fun r h' => h'.1 = 176 ∧ Px (k + 1) 176 m_Mo_order 4 [.ref 120, .int x1] (r.toList ++ []) h' Q)) : Px (k + 1) 176 m_Mo_order 0 [.ref 120, .int x1] [] (hp I J (pm_RT pa pb ga)) Q := by
  refine x_l 1 rfl rfl rfl ?_
  exact z_cv (As := []) (rest := []) (b := 120) rfl at_Mo_findOrder rfl rfl (Nat.le_of_ble_eq_true rfl) (Nat.le_of_ble_eq_true rfl) ⟨rfl, rfl, rfl⟩ (by decide) rfl h

theorem bk_Mo_order_4 {k : Nat} {pa pb : Nat} {ga : Nat → Nat} {I : pm_II} {J : pm_JJ} {Q : Option Value → pm_H → Prop} {x1 : Int32} (h : Px k 176 m_Mo_is 0 [.int x1, .int 0, .int ((I 120 85) - (1 : Int32))] [] (hp I J (pm_RT pa pb ga)) (fun r h' => h'.1 = 176 ∧ Px (k + 1) 176 m_Mo_order 15 [.ref 120, .int x1] (r.toList ++ []) h' Q)) : Px (k + 1) 176 m_Mo_order 4 [.ref 120, .int x1] [] (hp I J (pm_RT pa pb ga)) Q := by
  refine x_l 5 rfl rfl rfl ?_
  refine z_k 6 0 rfl (by decide) rfl ?_
  refine x_l 7 rfl rfl rfl ?_
  refine z_gf 10 (.int (I 120 85)) rfl ⟨rfl, rfl, rfl⟩ rfl rfl ?_
  refine z_k 11 1 rfl (by decide) rfl ?_
  refine x_s 12 rfl rfl rfl ?_
  exact z_cs (As := [.int x1, .int 0, .int ((I 120 85) - (1 : Int32))]) (rest := []) rfl at_Mo_is rfl rfl (Nat.le_of_ble_eq_true rfl) (Nat.le_of_ble_eq_true rfl) rfl h

theorem bk_Mo_order_15 {k : Nat} {pa pb : Nat} {ga : Nat → Nat} {I : pm_II} {J : pm_JJ} {Q : Option Value → pm_H → Prop} {x1 : Int32} {s0 : Int32} (h : ((s0 = 0 → Q (some (.int (-1))) (hp I J (pm_RT pa pb ga))) ∧ (¬ (s0 = 0) → vp_in x1 6 ∧ Q (some (.int (I 173 ((x1 : Int32).toNatClampNeg)))) (hp I J (pm_RT pa pb ga))))) : Px (k + 1) 176 m_Mo_order 15 [.ref 120, .int x1] [.int s0] (hp I J (pm_RT pa pb ga)) Q := by
  refine x_b 18 rfl rfl rfl (fun c => ?_) (fun c => ?_)
  · have h := h.1 c
    refine z_k 28 (-1) rfl (by decide) rfl ?_
    exact x_ri rfl (Or.inl rfl) h
  · have h := h.2 c
    refine x_l 19 rfl rfl rfl ?_
    refine z_gf 22 (.ref 173) rfl ⟨rfl, rfl, rfl⟩ rfl rfl ?_
    refine x_l 23 rfl rfl rfl ?_
    have h1 := h.1
    have h := h.2
    refine z_il 24 6 rfl ⟨rfl, rfl, rfl⟩ rfl h1 rfl ?_
    refine x_g rfl ?_
    exact x_ri rfl (Or.inl rfl) h

theorem bk_Mo_findOrder_0 {k : Nat} {pa pb : Nat} {ga : Nat → Nat} {I : pm_II} {J : pm_JJ} {Q : Option Value → pm_H → Prop} (h : (((I 120 91) = 0 → Px (k + 1) 176 m_Mo_findOrder 25 [.ref 120, .int 0, .int 0, .int 0, .int 1, .int 0, .null, .null, .null] [] (hp (pm_up I 120 91 1) J (pm_RT pa pb ga)) Q) ∧ (¬ ((I 120 91) = 0) → Q none (hp I J (pm_RT pa pb ga))))) : Px (k + 1) 176 m_Mo_findOrder 0 [.ref 120, .null, .null, .null, .null, .null, .null, .null, .null] [] (hp I J (pm_RT pa pb ga)) Q := by
  refine x_l 1 rfl rfl rfl ?_
  refine z_gf 4 (.int (I 120 91)) rfl ⟨rfl, rfl, rfl⟩ rfl rfl ?_
  refine x_b 7 rfl rfl rfl (fun c => ?_) (fun c => ?_)
  · have h := h.1 c
    refine x_l 9 rfl rfl rfl ?_
    refine z_k 10 1 rfl (by decide) rfl ?_
    refine z_pi 13 rfl (Or.inr rfl) rfl (fun _ => Or.inr rfl) ⟨rfl, rfl, rfl⟩ rfl ?_
    refine z_k 14 0 rfl (by decide) rfl ?_
    refine x_t 15 rfl rfl rfl ?_
    refine z_k 16 0 rfl (by decide) rfl ?_
    refine x_t 17 rfl rfl rfl ?_
    refine z_k 18 0 rfl (by decide) rfl ?_
    refine x_t 19 rfl rfl rfl ?_
    refine z_k 20 1 rfl (by decide) rfl ?_
    refine x_t 22 rfl rfl rfl ?_
    refine z_k 23 0 rfl (by decide) rfl ?_
    refine x_t 25 rfl rfl rfl ?_
    exact h
  · have h := h.2 c
    exact x_rv rfl rfl h

theorem bk_Mo_findOrder_25 {k : Nat} {pa pb : Nat} {ga : Nat → Nat} {I : pm_II} {J : pm_JJ} {Q : Option Value → pm_H → Prop} {x1 : Int32} {x2 : Int32} {x3 : Int32} {x4 : Int32} {x5 : Int32} (h : (((I 120 85) ≤ x5 → Px (k + 1) 176 m_Mo_findOrder 52 [.ref 120, .int x1, .int x2, .int x3, .int x4, .int 0, .null, .null, .null] [] (hp I J (pm_RT pa pb ga)) Q) ∧ (¬ ((I 120 85) ≤ x5) → Px (k + 1) 176 m_Mo_findOrder 25 [.ref 120, .int x1, .int x2, .int x3, .int (x4 * (I 120 85)), .int (x5 + Int32.ofInt 1), .null, .null, .null] [] (hp I J (pm_RT pa pb ga)) Q))) : Px (k + 1) 176 m_Mo_findOrder 25 [.ref 120, .int x1, .int x2, .int x3, .int x4, .int x5, .null, .null, .null] [] (hp I J (pm_RT pa pb ga)) Q := by
  refine x_l 27 rfl rfl rfl ?_
  refine x_l 28 rfl rfl rfl ?_
  refine z_gf 31 (.int (I 120 85)) rfl ⟨rfl, rfl, rfl⟩ rfl rfl ?_
  refine x_b 34 rfl rfl rfl (fun c => ?_) (fun c => ?_)
  · have h := h.1 c
    refine z_k 50 0 rfl (by decide) rfl ?_
    refine x_t 52 rfl rfl rfl ?_
    exact h
  · have h := h.2 c
    refine x_l 36 rfl rfl rfl ?_
    refine x_l 37 rfl rfl rfl ?_
    refine z_gf 40 (.int (I 120 85)) rfl ⟨rfl, rfl, rfl⟩ rfl rfl ?_
    refine x_s 41 rfl rfl rfl ?_
    refine x_t 43 rfl rfl rfl ?_
    refine x_t 46 rfl rfl rfl ?_
    refine x_g rfl ?_
    exact h

theorem bk_Mo_findOrder_52 {k : Nat} {pa pb : Nat} {ga : Nat → Nat} {I : pm_II} {J : pm_JJ} {Q : Option Value → pm_H → Prop} {x1 : Int32} {x2 : Int32} {x3 : Int32} {x4 : Int32} {x5 : Int32} (h : ((x4 ≤ x5 → Px (k + 1) 176 m_Mo_findOrder 234 [.ref 120, .int x1, .int x2, .int x3, .int x4, .int x5, .null, .null, .null] [] (hp I J (pm_RT pa pb ga)) Q) ∧ (¬ (x4 ≤ x5) → (((I 120 85) ≤ 0 → Px (k + 1) 176 m_Mo_findOrder 234 [.ref 120, .int x1, .int x2, .int x3, .int x4, .int x5, .null, .null, .null] [] (hp I J (pm_RT pa pb ga)) Q) ∧ (¬ ((I 120 85) ≤ 0) → Px (k + 1) 176 m_Mo_findOrder 81 [.ref 120, .int x1, .int x2, .int x3, .int x4, .int x5, .int 0, .int x5, .int ((I 120 85) - (1 : Int32))] [] (hp I J (pm_RT pa pb ga)) Q))))) : Px (k + 1) 176 m_Mo_findOrder 52 [.ref 120, .int x1, .int x2, .int x3, .int x4, .int x5, .null, .null, .null] [] (hp I J (pm_RT pa pb ga)) Q := by
  refine x_l 54 rfl rfl rfl ?_
  refine x_l 56 rfl rfl rfl ?_
  refine x_b 59 rfl rfl rfl (fun c => ?_) (fun c => ?_)
  · have h := h.1 c
    exact h
  · have h := h.2 c
    refine x_l 60 rfl rfl rfl ?_
    refine z_gf 63 (.int (I 120 85)) rfl ⟨rfl, rfl, rfl⟩ rfl rfl ?_
    refine x_b 66 rfl rfl rfl (fun c => ?_) (fun c => ?_)
    · have h := h.1 c
      exact h
    · have h := h.2 c
      refine z_k 67 0 rfl (by decide) rfl ?_
      refine x_t 69 rfl rfl rfl ?_
      refine x_l 71 rfl rfl rfl ?_
      refine x_t 73 rfl rfl rfl ?_
      refine x_l 74 rfl rfl rfl ?_
      refine z_gf 77 (.int (I 120 85)) rfl ⟨rfl, rfl, rfl⟩ rfl rfl ?_
      refine z_k 78 1 rfl (by decide) rfl ?_
      refine x_s 79 rfl rfl rfl ?_
      refine x_t 81 rfl rfl rfl ?_
      exact h

theorem bk_Mo_findOrder_81 {k : Nat} {pa pb : Nat} {ga : Nat → Nat} {I : pm_II} {J : pm_JJ} {Q : Option Value → pm_H → Prop} {x1 : Int32} {x2 : Int32} {x3 : Int32} {x4 : Int32} {x5 : Int32} {x6 : Int32} {x7 : Int32} {x8 : Int32} (h : ((x8 < 0 → ((x6 = (((1 : Int32) <<< ((I 120 85) &&& 31)) - (1 : Int32)) → Px k 176 m_Mo_runs 0 [.ref 120, .ref 174, .null, .null, .null, .null, .null, .null, .null] [] (hp I J (pm_RT pa pb ga)) (fun r h' => h'.1 = 176 ∧ Px (k + 1) 176 m_Mo_findOrder 153 [.ref 120, .int x1, .int x2, .int x3, .int x4, .int x5, .int x6, .int x7, .int x8] (r.toList ++ []) h' Q)) ∧ (¬ (x6 = (((1 : Int32) <<< ((I 120 85) &&& 31)) - (1 : Int32))) → Px (k + 1) 176 m_Mo_findOrder 228 [.ref 120, .int x1, .int x2, .int x3, .int x4, .int x5, .int x6, .int x7, .int x8] [] (hp I J (pm_RT pa pb ga)) Q))) ∧ (¬ (x8 < 0) → ¬ (I 120 85) = 0 ∧ vp_in x8 6 ∧ ¬ (I 120 85) = 0 ∧ ¬ (I 120 85) = 0 ∧ Px (k + 1) 176 m_Mo_findOrder 81 [.ref 120, .int x1, .int x2, .int x3, .int x4, .int x5, .int (x6 ||| ((1 : Int32) <<< ((x7 - x7 / (I 120 85) * (I 120 85)) &&& 31))), .int (x7 / (I 120 85)), .int (x8 + Int32.ofInt (-1))] [] (hp (pm_up I 174 ((x8 : Int32).toNatClampNeg) (x7 - x7 / (I 120 85) * (I 120 85))) J (pm_RT pa pb ga)) Q))) : Px (k + 1) 176 m_Mo_findOrder 81 [.ref 120, .int x1, .int x2, .int x3, .int x4, .int x5, .int x6, .int x7, .int x8] [] (hp I J (pm_RT pa pb ga)) Q := by
  refine x_l 83 rfl rfl rfl ?_
  refine x_b 86 rfl rfl rfl (fun c => ?_) (fun c => ?_)
  · have h := h.1 c
    refine x_l 131 rfl rfl rfl ?_
    refine z_k 132 1 rfl (by decide) rfl ?_
    refine x_l 133 rfl rfl rfl ?_
    refine z_gf 136 (.int (I 120 85)) rfl ⟨rfl, rfl, rfl⟩ rfl rfl ?_
    refine x_s 137 rfl rfl rfl ?_
    refine z_k 138 1 rfl (by decide) rfl ?_
    refine x_s 139 rfl rfl rfl ?_
    refine x_b 142 rfl rfl rfl (fun c => ?_) (fun c => ?_)
    · have h := h.1 c
      refine x_l 146 rfl rfl rfl ?_
      refine x_l 147 rfl rfl rfl ?_
      refine z_gf 150 (.ref 174) rfl ⟨rfl, rfl, rfl⟩ rfl rfl ?_
      exact z_cv (As := [.ref 174]) (rest := []) (b := 120) rfl at_Mo_runs rfl rfl (Nat.le_of_ble_eq_true rfl) (Nat.le_of_ble_eq_true rfl) ⟨rfl, rfl, rfl⟩ (by decide) rfl h
    · have h := h.2 c
      refine x_g rfl ?_
      exact h
  · have h := h.2 c
    refine x_l 87 rfl rfl rfl ?_
    refine z_gf 90 (.ref 174) rfl ⟨rfl, rfl, rfl⟩ rfl rfl ?_
    refine x_l 92 rfl rfl rfl ?_
    refine x_l 94 rfl rfl rfl ?_
    refine x_l 95 rfl rfl rfl ?_
    refine z_gf 98 (.int (I 120 85)) rfl ⟨rfl, rfl, rfl⟩ rfl rfl ?_
    have h0 := h.1
    have h := h.2
    refine x_rm 99 rfl h0 rfl ?_
    have h1 := h.1
    have h := h.2
    refine z_is 100 6 rfl ⟨rfl, rfl, rfl⟩ rfl h1 rfl ?_
    refine x_l 102 rfl rfl rfl ?_
    refine z_k 103 1 rfl (by decide) rfl ?_
    refine x_l 105 rfl rfl rfl ?_
    refine x_l 106 rfl rfl rfl ?_
    refine z_gf 109 (.int (I 120 85)) rfl ⟨rfl, rfl, rfl⟩ rfl rfl ?_
    have h0 := h.1
    have h := h.2
    refine x_rm 110 rfl h0 rfl ?_
    refine x_s 111 rfl rfl rfl ?_
    refine x_s 112 rfl rfl rfl ?_
    refine x_t 114 rfl rfl rfl ?_
    refine x_l 116 rfl rfl rfl ?_
    refine x_l 117 rfl rfl rfl ?_
    refine z_gf 120 (.int (I 120 85)) rfl ⟨rfl, rfl, rfl⟩ rfl rfl ?_
    have h0 := h.1
    have h := h.2
    refine x_dv 121 rfl h0 rfl ?_
    refine x_t 123 rfl rfl rfl ?_
    refine x_t 126 rfl rfl rfl ?_
    refine x_g rfl ?_
    exact h

theorem bk_Mo_findOrder_153 {k : Nat} {pa pb : Nat} {ga : Nat → Nat} {I : pm_II} {J : pm_JJ} {Q : Option Value → pm_H → Prop} {x1 : Int32} {x2 : Int32} {x3 : Int32} {x4 : Int32} {x5 : Int32} {x6 : Int32} {x7 : Int32} {x8 : Int32} (h : ((x3 = 0 → Px (k + 1) 176 m_Mo_findOrder 184 [.ref 120, .int x1, .int x2, .int x3, .int x4, .int x5, .int x6, .int x7, .int x8] [] (hp I J (pm_RT pa pb ga)) Q) ∧ (¬ (x3 = 0) → ((x1 < (I 120 88) → Px (k + 1) 176 m_Mo_findOrder 228 [.ref 120, .int x1, .int x2, .int x3, .int x4, .int x5, .int x6, .int x7, .int x8] [] (hp I J (pm_RT pa pb ga)) Q) ∧ (¬ (x1 < (I 120 88)) → ((¬ (I 120 88) = x1 → Px (k + 1) 176 m_Mo_findOrder 184 [.ref 120, .int x1, .int x2, .int x3, .int x4, .int x5, .int x6, .int x7, .int x8] [] (hp I J (pm_RT pa pb ga)) Q) ∧ (¬ (¬ (I 120 88) = x1) → (((I 120 89) < x2 → Px (k + 1) 176 m_Mo_findOrder 184 [.ref 120, .int x1, .int x2, .int x3, .int x4, .int x5, .int x6, .int x7, .int x8] [] (hp I J (pm_RT pa pb ga)) Q) ∧ (¬ ((I 120 89) < x2) → Px (k + 1) 176 m_Mo_findOrder 228 [.ref 120, .int x1, .int x2, .int x3, .int x4, .int x5, .int x6, .int x7, .int x8] [] (hp I J (pm_RT pa pb ga)) Q))))))))) : Px (k + 1) 176 m_Mo_findOrder 153 [.ref 120, .int x1, .int x2, .int x3, .int x4, .int x5, .int x6, .int x7, .int x8] [] (hp I J (pm_RT pa pb ga)) Q := by
  refine x_l 154 rfl rfl rfl ?_
  refine x_b 157 rfl rfl rfl (fun c => ?_) (fun c => ?_)
  · have h := h.1 c
    exact h
  · have h := h.2 c
    refine x_l 158 rfl rfl rfl ?_
    refine z_gf 161 (.int (I 120 88)) rfl ⟨rfl, rfl, rfl⟩ rfl rfl ?_
    refine x_l 162 rfl rfl rfl ?_
    refine x_b 165 rfl rfl rfl (fun c => ?_) (fun c => ?_)
    · have h := h.1 c
      exact h
    · have h := h.2 c
      refine x_l 166 rfl rfl rfl ?_
      refine z_gf 169 (.int (I 120 88)) rfl ⟨rfl, rfl, rfl⟩ rfl rfl ?_
      refine x_l 170 rfl rfl rfl ?_
      refine x_b 173 rfl rfl rfl (fun c => ?_) (fun c => ?_)
      · have h := h.1 c
        exact h
      · have h := h.2 c
        refine x_l 174 rfl rfl rfl ?_
        refine z_gf 177 (.int (I 120 89)) rfl ⟨rfl, rfl, rfl⟩ rfl rfl ?_
        refine x_l 178 rfl rfl rfl ?_
        refine x_b 181 rfl rfl rfl (fun c => ?_) (fun c => ?_)
        · have h := h.1 c
          exact h
        · have h := h.2 c
          refine x_g rfl ?_
          exact h

theorem bk_Mo_findOrder_184 {k : Nat} {pa pb : Nat} {ga : Nat → Nat} {I : pm_II} {J : pm_JJ} {Q : Option Value → pm_H → Prop} {x1 : Int32} {x2 : Int32} {x3 : Int32} {x4 : Int32} {x5 : Int32} {x6 : Int32} {x7 : Int32} {x8 : Int32} (h : Px (k + 1) 176 m_Mo_findOrder 199 [.ref 120, .int (I 120 88), .int (I 120 89), .int 1, .int x4, .int x5, .int x6, .int x7, .int 0] [] (hp I J (pm_RT pa pb ga)) Q) : Px (k + 1) 176 m_Mo_findOrder 184 [.ref 120, .int x1, .int x2, .int x3, .int x4, .int x5, .int x6, .int x7, .int x8] [] (hp I J (pm_RT pa pb ga)) Q := by
  refine z_k 185 1 rfl (by decide) rfl ?_
  refine x_t 186 rfl rfl rfl ?_
  refine x_l 187 rfl rfl rfl ?_
  refine z_gf 190 (.int (I 120 88)) rfl ⟨rfl, rfl, rfl⟩ rfl rfl ?_
  refine x_t 191 rfl rfl rfl ?_
  refine x_l 192 rfl rfl rfl ?_
  refine z_gf 195 (.int (I 120 89)) rfl ⟨rfl, rfl, rfl⟩ rfl rfl ?_
  refine x_t 196 rfl rfl rfl ?_
  refine z_k 197 0 rfl (by decide) rfl ?_
  refine x_t 199 rfl rfl rfl ?_
  exact h

theorem bk_Mo_findOrder_199 {k : Nat} {pa pb : Nat} {ga : Nat → Nat} {I : pm_II} {J : pm_JJ} {Q : Option Value → pm_H → Prop} {x1 : Int32} {x2 : Int32} {x3 : Int32} {x4 : Int32} {x5 : Int32} {x6 : Int32} {x7 : Int32} {x8 : Int32} (h : (((I 120 85) ≤ x8 → Px (k + 1) 176 m_Mo_findOrder 228 [.ref 120, .int x1, .int x2, .int x3, .int x4, .int x5, .int x6, .int x7, .int x8] [] (hp I J (pm_RT pa pb ga)) Q) ∧ (¬ ((I 120 85) ≤ x8) → vp_in x8 6 ∧ vp_in x8 6 ∧ Px (k + 1) 176 m_Mo_findOrder 199 [.ref 120, .int x1, .int x2, .int x3, .int x4, .int x5, .int x6, .int x7, .int (x8 + Int32.ofInt 1)] [] (hp (pm_up I 173 ((x8 : Int32).toNatClampNeg) (I 174 ((x8 : Int32).toNatClampNeg))) J (pm_RT pa pb ga)) Q))) : Px (k + 1) 176 m_Mo_findOrder 199 [.ref 120, .int x1, .int x2, .int x3, .int x4, .int x5, .int x6, .int x7, .int x8] [] (hp I J (pm_RT pa pb ga)) Q := by
  refine x_l 201 rfl rfl rfl ?_
  refine x_l 202 rfl rfl rfl ?_
  refine z_gf 205 (.int (I 120 85)) rfl ⟨rfl, rfl, rfl⟩ rfl rfl ?_
  refine x_b 208 rfl rfl rfl (fun c => ?_) (fun c => ?_)
  · have h := h.1 c
    exact h
  · have h := h.2 c
    refine x_l 209 rfl rfl rfl ?_
    refine z_gf 212 (.ref 173) rfl ⟨rfl, rfl, rfl⟩ rfl rfl ?_
    refine x_l 214 rfl rfl rfl ?_
    refine x_l 215 rfl rfl rfl ?_
    refine z_gf 218 (.ref 174) rfl ⟨rfl, rfl, rfl⟩ rfl rfl ?_
    refine x_l 220 rfl rfl rfl ?_
    have h1 := h.1
    have h := h.2
    refine z_il 221 6 rfl ⟨rfl, rfl, rfl⟩ rfl h1 rfl ?_
    have h1 := h.1
    have h := h.2
    refine z_is 222 6 rfl ⟨rfl, rfl, rfl⟩ rfl h1 rfl ?_
    refine x_t 225 rfl rfl rfl ?_
    refine x_g rfl ?_
    exact h

theorem bk_Mo_findOrder_228 {k : Nat} {pa pb : Nat} {ga : Nat → Nat} {I : pm_II} {J : pm_JJ} {Q : Option Value → pm_H → Prop} {x1 : Int32} {x2 : Int32} {x3 : Int32} {x4 : Int32} {x5 : Int32} {x6 : Int32} {x7 : Int32} {x8 : Int32} (h : Px (k + 1) 176 m_Mo_findOrder 52 [.ref 120, .int x1, .int x2, .int x3, .int x4, .int (x5 + Int32.ofInt 1), .int x6, .int x7, .int x8] [] (hp I J (pm_RT pa pb ga)) Q) : Px (k + 1) 176 m_Mo_findOrder 228 [.ref 120, .int x1, .int x2, .int x3, .int x4, .int x5, .int x6, .int x7, .int x8] [] (hp I J (pm_RT pa pb ga)) Q := by
  refine x_t 231 rfl rfl rfl ?_
  refine x_g rfl ?_
  exact h

theorem bk_Mo_findOrder_234 {k : Nat} {pa pb : Nat} {ga : Nat → Nat} {I : pm_II} {J : pm_JJ} {Q : Option Value → pm_H → Prop} {x1 : Int32} {x2 : Int32} {x3 : Int32} {x4 : Int32} {x5 : Int32} (h : Px k 176 m_Mo_runs 0 [.ref 120, .ref 173, .null, .null, .null, .null, .null, .null, .null] [] (hp I J (pm_RT pa pb ga)) (fun r h' => h'.1 = 176 ∧ Px (k + 1) 176 m_Mo_findOrder 242 [.ref 120, .int x1, .int x2, .int x3, .int x4, .int x5, .null, .null, .null] (r.toList ++ []) h' Q)) : Px (k + 1) 176 m_Mo_findOrder 234 [.ref 120, .int x1, .int x2, .int x3, .int x4, .int x5, .null, .null, .null] [] (hp I J (pm_RT pa pb ga)) Q := by
  refine x_l 235 rfl rfl rfl ?_
  refine x_l 236 rfl rfl rfl ?_
  refine z_gf 239 (.ref 173) rfl ⟨rfl, rfl, rfl⟩ rfl rfl ?_
  exact z_cv (As := [.ref 173]) (rest := []) (b := 120) rfl at_Mo_runs rfl rfl (Nat.le_of_ble_eq_true rfl) (Nat.le_of_ble_eq_true rfl) ⟨rfl, rfl, rfl⟩ (by decide) rfl h

theorem bk_Mo_findOrder_242 {k : Nat} {pa pb : Nat} {ga : Nat → Nat} {I : pm_II} {J : pm_JJ} {Q : Option Value → pm_H → Prop} {x1 : Int32} {x2 : Int32} {x3 : Int32} {x4 : Int32} {x5 : Int32} (h : Q none (hp I J (pm_RT pa pb ga))) : Px (k + 1) 176 m_Mo_findOrder 242 [.ref 120, .int x1, .int x2, .int x3, .int x4, .int x5, .null, .null, .null] [] (hp I J (pm_RT pa pb ga)) Q := by
  exact x_rv rfl rfl h

theorem bk_Mo_runs_0 {k : Nat} {pa pb : Nat} {ga : Nat → Nat} {I : pm_II} {J : pm_JJ} {Q : Option Value → pm_H → Prop} {a1 : Nat} (h : Px (k + 1) 176 m_Mo_runs 17 [.ref 120, .ref a1, .int 0, .int 0, .int 0, .null, .null, .null, .null] [] (hp (pm_up (pm_up I 120 88 0) 120 90 0) J (pm_RT pa pb ga)) Q) : Px (k + 1) 176 m_Mo_runs 0 [.ref 120, .ref a1, .null, .null, .null, .null, .null, .null, .null] [] (hp I J (pm_RT pa pb ga)) Q := by
  refine z_k 1 0 rfl (by decide) rfl ?_
  refine x_t 2 rfl rfl rfl ?_
  refine z_k 3 0 rfl (by decide) rfl ?_
  refine x_t 4 rfl rfl rfl ?_
  refine x_l 5 rfl rfl rfl ?_
  refine z_k 6 0 rfl (by decide) rfl ?_
  refine z_pi 9 rfl (Or.inl rfl) rfl (fun z => by cases z) ⟨rfl, rfl, rfl⟩ rfl ?_
  refine x_l 10 rfl rfl rfl ?_
  refine z_k 11 0 rfl (by decide) rfl ?_
  refine z_pi 14 rfl (Or.inl rfl) rfl (fun z => by cases z) ⟨rfl, rfl, rfl⟩ rfl ?_
  refine z_k 15 0 rfl (by decide) rfl ?_
  refine x_t 17 rfl rfl rfl ?_
  exact h

theorem bk_Mo_runs_17 {k : Nat} {pa pb : Nat} {ga : Nat → Nat} {I : pm_II} {J : pm_JJ} {Q : Option Value → pm_H → Prop} {a1 : Nat} {x2 : Int32} {x3 : Int32} {x4 : Int32} (h : (((I 120 85) ≤ x4 → Q none (hp (pm_up I 120 89 x3) J (pm_RT pa pb ga))) ∧ (¬ ((I 120 85) ≤ x4) → pm_ob a1 100 ∧ vp_in x4 (pm_sh a1).2 ∧ ((x4 ≤ 0 → Px (k + 1) 176 m_Mo_runs 63 [.ref 120, .ref a1, .int x2, .int x3, .int x4, .int (I a1 ((x4 : Int32).toNatClampNeg)), .null, .null, .null] [.int 0] (hp I J (pm_RT pa pb ga)) Q) ∧ (¬ (x4 ≤ 0) → vp_in (I a1 ((x4 : Int32).toNatClampNeg)) 6 ∧ pm_ob a1 100 ∧ vp_in (x4 - (1 : Int32)) (pm_sh a1).2 ∧ vp_in (I a1 (((x4 - (1 : Int32)) : Int32).toNatClampNeg)) 6 ∧ (((I 169 (((I a1 ((x4 : Int32).toNatClampNeg)) : Int32).toNatClampNeg)) = (I 169 (((I a1 (((x4 - (1 : Int32)) : Int32).toNatClampNeg)) : Int32).toNatClampNeg)) → Px (k + 1) 176 m_Mo_runs 63 [.ref 120, .ref a1, .int x2, .int x3, .int x4, .int (I a1 ((x4 : Int32).toNatClampNeg)), .null, .null, .null] [.int 0] (hp I J (pm_RT pa pb ga)) Q) ∧ (¬ ((I 169 (((I a1 ((x4 : Int32).toNatClampNeg)) : Int32).toNatClampNeg)) = (I 169 (((I a1 (((x4 - (1 : Int32)) : Int32).toNatClampNeg)) : Int32).toNatClampNeg))) → Px (k + 1) 176 m_Mo_runs 63 [.ref 120, .ref a1, .int x2, .int x3, .int x4, .int (I a1 ((x4 : Int32).toNatClampNeg)), .null, .null, .null] [.int 1] (hp I J (pm_RT pa pb ga)) Q))))))) : Px (k + 1) 176 m_Mo_runs 17 [.ref 120, .ref a1, .int x2, .int x3, .int x4, .null, .null, .null, .null] [] (hp I J (pm_RT pa pb ga)) Q := by
  refine x_l 19 rfl rfl rfl ?_
  refine x_l 20 rfl rfl rfl ?_
  refine z_gf 23 (.int (I 120 85)) rfl ⟨rfl, rfl, rfl⟩ rfl rfl ?_
  refine x_b 26 rfl rfl rfl (fun c => ?_) (fun c => ?_)
  · have h := h.1 c
    refine x_l 234 rfl rfl rfl ?_
    refine x_l 235 rfl rfl rfl ?_
    refine z_pi 238 rfl (Or.inl rfl) rfl (fun z => by cases z) ⟨rfl, rfl, rfl⟩ rfl ?_
    exact x_rv rfl rfl h
  · have h := h.2 c
    refine x_l 27 rfl rfl rfl ?_
    refine x_l 29 rfl rfl rfl ?_
    have h0 := h.1
    have h := h.2
    have h1 := h.1
    have h := h.2
    refine z_il 30 (pm_sh a1).2 rfl h0 rfl h1 rfl ?_
    refine x_t 32 rfl rfl rfl ?_
    refine x_l 34 rfl rfl rfl ?_
    refine x_b 37 rfl rfl rfl (fun c => ?_) (fun c => ?_)
    · have h := h.1 c
      refine z_k 63 0 rfl (by decide) rfl ?_
      exact h
    · have h := h.2 c
      refine x_l 38 rfl rfl rfl ?_
      refine z_gf 41 (.ref 169) rfl ⟨rfl, rfl, rfl⟩ rfl rfl ?_
      refine x_l 43 rfl rfl rfl ?_
      have h1 := h.1
      have h := h.2
      refine z_il 44 6 rfl ⟨rfl, rfl, rfl⟩ rfl h1 rfl ?_
      refine x_l 45 rfl rfl rfl ?_
      refine z_gf 48 (.ref 169) rfl ⟨rfl, rfl, rfl⟩ rfl rfl ?_
      refine x_l 49 rfl rfl rfl ?_
      refine x_l 51 rfl rfl rfl ?_
      refine z_k 52 1 rfl (by decide) rfl ?_
      refine x_s 53 rfl rfl rfl ?_
      have h0 := h.1
      have h := h.2
      have h1 := h.1
      have h := h.2
      refine z_il 54 (pm_sh a1).2 rfl h0 rfl h1 rfl ?_
      have h1 := h.1
      have h := h.2
      refine z_il 55 6 rfl ⟨rfl, rfl, rfl⟩ rfl h1 rfl ?_
      refine x_b 58 rfl rfl rfl (fun c => ?_) (fun c => ?_)
      · have h := h.1 c
        refine z_k 63 0 rfl (by decide) rfl ?_
        exact h
      · have h := h.2 c
        refine z_k 59 1 rfl (by decide) rfl ?_
        refine x_g rfl ?_
        exact h

theorem bk_Mo_runs_63 {k : Nat} {pa pb : Nat} {ga : Nat → Nat} {I : pm_II} {J : pm_JJ} {Q : Option Value → pm_H → Prop} {a1 : Nat} {x2 : Int32} {x3 : Int32} {x4 : Int32} {x5 : Int32} {s0 : Int32} (h : ((s0 = 0 → Px (k + 1) 176 m_Mo_runs 80 [.ref 120, .ref a1, .int x2, .int x3, .int x4, .int x5, .int s0, .null, .null] [.int 0, .int (I 120 90), .ref 120] (hp I J (pm_RT pa pb ga)) Q) ∧ (¬ (s0 = 0) → Px (k + 1) 176 m_Mo_runs 80 [.ref 120, .ref a1, .int x2, .int x3, .int x4, .int x5, .int s0, .null, .null] [.int 1, .int (I 120 90), .ref 120] (hp I J (pm_RT pa pb ga)) Q))) : Px (k + 1) 176 m_Mo_runs 63 [.ref 120, .ref a1, .int x2, .int x3, .int x4, .int x5, .null, .null, .null] [.int s0] (hp I J (pm_RT pa pb ga)) Q := by
  refine x_t 65 rfl rfl rfl ?_
  refine x_l 66 rfl rfl rfl ?_
  refine x_s 67 rfl rfl rfl ?_
  refine z_gf 70 (.int (I 120 90)) rfl ⟨rfl, rfl, rfl⟩ rfl rfl ?_
  refine x_l 72 rfl rfl rfl ?_
  refine x_b 75 rfl rfl rfl (fun c => ?_) (fun c => ?_)
  · have h := h.1 c
    refine z_k 80 0 rfl (by decide) rfl ?_
    exact h
  · have h := h.2 c
    refine z_k 76 1 rfl (by decide) rfl ?_
    refine x_g rfl ?_
    exact h

theorem bk_Mo_runs_80 {k : Nat} {pa pb : Nat} {ga : Nat → Nat} {I : pm_II} {J : pm_JJ} {Q : Option Value → pm_H → Prop} {a1 : Nat} {x2 : Int32} {x3 : Int32} {x4 : Int32} {x5 : Int32} {x6 : Int32} {s1 : Int32} {s2 : Int32} (h : ((x6 = 0 → Px (k + 1) 176 m_Mo_runs 98 [.ref 120, .ref a1, .int x2, .int x3, .int x4, .int x5, .int x6, .null, .null] [.int 0, .int x2] (hp (pm_up I 120 90 (s1 + s2)) J (pm_RT pa pb ga)) Q) ∧ (¬ (x6 = 0) → Px (k + 1) 176 m_Mo_runs 98 [.ref 120, .ref a1, .int x2, .int x3, .int x4, .int x5, .int x6, .null, .null] [.int (I 120 86), .int x2] (hp (pm_up I 120 90 (s1 + s2)) J (pm_RT pa pb ga)) Q))) : Px (k + 1) 176 m_Mo_runs 80 [.ref 120, .ref a1, .int x2, .int x3, .int x4, .int x5, .int x6, .null, .null] [.int s2, .int s1, .ref 120] (hp I J (pm_RT pa pb ga)) Q := by
  refine x_s 81 rfl rfl rfl ?_
  refine z_pi 84 rfl (Or.inl rfl) rfl (fun z => by cases z) ⟨rfl, rfl, rfl⟩ rfl ?_
  refine x_l 85 rfl rfl rfl ?_
  refine x_l 87 rfl rfl rfl ?_
  refine x_b 90 rfl rfl rfl (fun c => ?_) (fun c => ?_)
  · have h := h.1 c
    refine z_k 98 0 rfl (by decide) rfl ?_
    exact h
  · have h := h.2 c
    refine x_l 91 rfl rfl rfl ?_
    refine z_gf 94 (.int (I 120 86)) rfl ⟨rfl, rfl, rfl⟩ rfl rfl ?_
    refine x_g rfl ?_
    exact h

theorem bk_Mo_runs_98 {k : Nat} {pa pb : Nat} {ga : Nat → Nat} {I : pm_II} {J : pm_JJ} {Q : Option Value → pm_H → Prop} {a1 : Nat} {x2 : Int32} {x3 : Int32} {x4 : Int32} {x5 : Int32} {x6 : Int32} {s0 : Int32} {s1 : Int32} (h : vp_in x5 6 ∧ Px k 176 m_Jm_max 0 [.int x3, .int (((s0 + s1) + (I 170 ((x5 : Int32).toNatClampNeg))) + (I 120 87))] [] (hp I J (pm_RT pa pb ga)) (fun r h' => h'.1 = 176 ∧ Px (k + 1) 176 m_Mo_runs 122 [.ref 120, .ref a1, .int ((s0 + s1) + (I 170 ((x5 : Int32).toNatClampNeg))), .int x3, .int x4, .int x5, .int x6, .int (s0 + s1), .null] (r.toList ++ []) h' Q)) : Px (k + 1) 176 m_Mo_runs 98 [.ref 120, .ref a1, .int x2, .int x3, .int x4, .int x5, .int x6, .null, .null] [.int s1, .int s0] (hp I J (pm_RT pa pb ga)) Q := by
  refine x_s 99 rfl rfl rfl ?_
  refine x_t 101 rfl rfl rfl ?_
  refine x_l 103 rfl rfl rfl ?_
  refine x_l 104 rfl rfl rfl ?_
  refine z_gf 107 (.ref 170) rfl ⟨rfl, rfl, rfl⟩ rfl rfl ?_
  refine x_l 109 rfl rfl rfl ?_
  have h1 := h.1
  have h := h.2
  refine z_il 110 6 rfl ⟨rfl, rfl, rfl⟩ rfl h1 rfl ?_
  refine x_s 111 rfl rfl rfl ?_
  refine x_t 112 rfl rfl rfl ?_
  refine x_l 113 rfl rfl rfl ?_
  refine x_l 114 rfl rfl rfl ?_
  refine x_l 115 rfl rfl rfl ?_
  refine z_gf 118 (.int (I 120 87)) rfl ⟨rfl, rfl, rfl⟩ rfl rfl ?_
  refine x_s 119 rfl rfl rfl ?_
  exact z_cs (As := [.int x3, .int (((s0 + s1) + (I 170 ((x5 : Int32).toNatClampNeg))) + (I 120 87))]) (rest := []) rfl at_Jm_max rfl rfl (Nat.le_of_ble_eq_true rfl) (Nat.le_of_ble_eq_true rfl) rfl h

theorem bk_Mo_runs_122 {k : Nat} {pa pb : Nat} {ga : Nat → Nat} {I : pm_II} {J : pm_JJ} {Q : Option Value → pm_H → Prop} {a1 : Nat} {x2 : Int32} {x3 : Int32} {x4 : Int32} {x5 : Int32} {x6 : Int32} {x7 : Int32} {s0 : Int32} (h : vp_in x5 6 ∧ vp_in ((5 : Int32) * x5) 30 ∧ vp_in (((5 : Int32) * x5) + (1 : Int32)) 30 ∧ vp_in (((5 : Int32) * x5) + (2 : Int32)) 30 ∧ vp_in (((5 : Int32) * x5) + (3 : Int32)) 30 ∧ vp_in x5 6 ∧ Px k 176 m_Jm_max 0 [.int 0, .int ((s0 + (I 171 ((x5 : Int32).toNatClampNeg))) - (I 172 ((x5 : Int32).toNatClampNeg)))] [] (hp (pm_up (pm_up (pm_up (pm_up I 175 ((((5 : Int32) * x5) : Int32).toNatClampNeg) x7) 175 (((((5 : Int32) * x5) + (1 : Int32)) : Int32).toNatClampNeg) x2) 175 (((((5 : Int32) * x5) + (2 : Int32)) : Int32).toNatClampNeg) s0) 175 (((((5 : Int32) * x5) + (3 : Int32)) : Int32).toNatClampNeg) (s0 + (I 171 ((x5 : Int32).toNatClampNeg)))) J (pm_RT pa pb ga)) (fun r h' => h'.1 = 176 ∧ Px (k + 1) 176 m_Mo_runs 206 [.ref 120, .ref a1, .int x2, .int (s0 + (I 171 ((x5 : Int32).toNatClampNeg))), .int x4, .int x5, .int x6, .int x7, .int s0] (r.toList ++ [.int (((5 : Int32) * x5) + (4 : Int32)), .ref 175]) h' Q)) : Px (k + 1) 176 m_Mo_runs 122 [.ref 120, .ref a1, .int x2, .int x3, .int x4, .int x5, .int x6, .int x7, .null] [.int s0] (hp I J (pm_RT pa pb ga)) Q := by
  refine x_t 124 rfl rfl rfl ?_
  refine x_l 126 rfl rfl rfl ?_
  refine x_l 127 rfl rfl rfl ?_
  refine z_gf 130 (.ref 171) rfl ⟨rfl, rfl, rfl⟩ rfl rfl ?_
  refine x_l 132 rfl rfl rfl ?_
  have h1 := h.1
  have h := h.2
  refine z_il 133 6 rfl ⟨rfl, rfl, rfl⟩ rfl h1 rfl ?_
  refine x_s 134 rfl rfl rfl ?_
  refine x_t 135 rfl rfl rfl ?_
  refine x_l 136 rfl rfl rfl ?_
  refine z_gf 139 (.ref 175) rfl ⟨rfl, rfl, rfl⟩ rfl rfl ?_
  refine z_k 140 5 rfl (by decide) rfl ?_
  refine x_l 142 rfl rfl rfl ?_
  refine x_s 143 rfl rfl rfl ?_
  refine x_l 145 rfl rfl rfl ?_
  have h1 := h.1
  have h := h.2
  refine z_is 146 30 rfl ⟨rfl, rfl, rfl⟩ rfl h1 rfl ?_
  refine x_l 147 rfl rfl rfl ?_
  refine z_gf 150 (.ref 175) rfl ⟨rfl, rfl, rfl⟩ rfl rfl ?_
  refine z_k 151 5 rfl (by decide) rfl ?_
  refine x_l 153 rfl rfl rfl ?_
  refine x_s 154 rfl rfl rfl ?_
  refine z_k 155 1 rfl (by decide) rfl ?_
  refine x_s 156 rfl rfl rfl ?_
  refine x_l 157 rfl rfl rfl ?_
  have h1 := h.1
  have h := h.2
  refine z_is 158 30 rfl ⟨rfl, rfl, rfl⟩ rfl h1 rfl ?_
  refine x_l 159 rfl rfl rfl ?_
  refine z_gf 162 (.ref 175) rfl ⟨rfl, rfl, rfl⟩ rfl rfl ?_
  refine z_k 163 5 rfl (by decide) rfl ?_
  refine x_l 165 rfl rfl rfl ?_
  refine x_s 166 rfl rfl rfl ?_
  refine z_k 167 2 rfl (by decide) rfl ?_
  refine x_s 168 rfl rfl rfl ?_
  refine x_l 170 rfl rfl rfl ?_
  have h1 := h.1
  have h := h.2
  refine z_is 171 30 rfl ⟨rfl, rfl, rfl⟩ rfl h1 rfl ?_
  refine x_l 172 rfl rfl rfl ?_
  refine z_gf 175 (.ref 175) rfl ⟨rfl, rfl, rfl⟩ rfl rfl ?_
  refine z_k 176 5 rfl (by decide) rfl ?_
  refine x_l 178 rfl rfl rfl ?_
  refine x_s 179 rfl rfl rfl ?_
  refine z_k 180 3 rfl (by decide) rfl ?_
  refine x_s 181 rfl rfl rfl ?_
  refine x_l 182 rfl rfl rfl ?_
  have h1 := h.1
  have h := h.2
  refine z_is 183 30 rfl ⟨rfl, rfl, rfl⟩ rfl h1 rfl ?_
  refine x_l 184 rfl rfl rfl ?_
  refine z_gf 187 (.ref 175) rfl ⟨rfl, rfl, rfl⟩ rfl rfl ?_
  refine z_k 188 5 rfl (by decide) rfl ?_
  refine x_l 190 rfl rfl rfl ?_
  refine x_s 191 rfl rfl rfl ?_
  refine z_k 192 4 rfl (by decide) rfl ?_
  refine x_s 193 rfl rfl rfl ?_
  refine z_k 194 0 rfl (by decide) rfl ?_
  refine x_l 195 rfl rfl rfl ?_
  refine x_l 196 rfl rfl rfl ?_
  refine z_gf 199 (.ref 172) rfl ⟨rfl, rfl, rfl⟩ rfl rfl ?_
  refine x_l 201 rfl rfl rfl ?_
  have h1 := h.1
  have h := h.2
  refine z_il 202 6 rfl ⟨rfl, rfl, rfl⟩ rfl h1 rfl ?_
  refine x_s 203 rfl rfl rfl ?_
  exact z_cs (As := [.int 0, .int ((s0 + (I 171 ((x5 : Int32).toNatClampNeg))) - (I 172 ((x5 : Int32).toNatClampNeg)))]) (rest := [.int (((5 : Int32) * x5) + (4 : Int32)), .ref 175]) rfl at_Jm_max rfl rfl (Nat.le_of_ble_eq_true rfl) (Nat.le_of_ble_eq_true rfl) rfl h

theorem bk_Mo_runs_206 {k : Nat} {pa pb : Nat} {ga : Nat → Nat} {I : pm_II} {J : pm_JJ} {Q : Option Value → pm_H → Prop} {a1 : Nat} {x2 : Int32} {x3 : Int32} {x4 : Int32} {x5 : Int32} {x6 : Int32} {x7 : Int32} {x8 : Int32} {s1 : Int32} {s2 : Int32} (h : vp_in s1 30 ∧ vp_in (((5 : Int32) * x5) + (4 : Int32)) 30 ∧ Px (k + 1) 176 m_Mo_runs 17 [.ref 120, .ref a1, .int x2, .int x3, .int (x4 + Int32.ofInt 1), .int x5, .int x6, .int x7, .int x8] [] (hp (pm_up (pm_up I 175 ((s1 : Int32).toNatClampNeg) s2) 120 88 ((I 120 88) + ((pm_up I 175 ((s1 : Int32).toNatClampNeg) s2) 175 (((((5 : Int32) * x5) + (4 : Int32)) : Int32).toNatClampNeg)))) J (pm_RT pa pb ga)) Q) : Px (k + 1) 176 m_Mo_runs 206 [.ref 120, .ref a1, .int x2, .int x3, .int x4, .int x5, .int x6, .int x7, .int x8] [.int s2, .int s1, .ref 175] (hp I J (pm_RT pa pb ga)) Q := by
  have h1 := h.1
  have h := h.2
  refine z_is 207 30 rfl ⟨rfl, rfl, rfl⟩ rfl h1 rfl ?_
  refine x_l 208 rfl rfl rfl ?_
  refine x_s 209 rfl rfl rfl ?_
  refine z_gf 212 (.int (I 120 88)) rfl ⟨rfl, rfl, rfl⟩ rfl rfl ?_
  refine x_l 213 rfl rfl rfl ?_
  refine z_gf 216 (.ref 175) rfl ⟨rfl, rfl, rfl⟩ rfl rfl ?_
  refine z_k 217 5 rfl (by decide) rfl ?_
  refine x_l 219 rfl rfl rfl ?_
  refine x_s 220 rfl rfl rfl ?_
  refine z_k 221 4 rfl (by decide) rfl ?_
  refine x_s 222 rfl rfl rfl ?_
  have h1 := h.1
  have h := h.2
  refine z_il 223 30 rfl ⟨rfl, rfl, rfl⟩ rfl h1 rfl ?_
  refine x_s 224 rfl rfl rfl ?_
  refine z_pi 227 rfl (Or.inl rfl) rfl (fun z => by cases z) ⟨rfl, rfl, rfl⟩ rfl ?_
  refine x_t 230 rfl rfl rfl ?_
  refine x_g rfl ?_
  exact h

theorem bk_Mo_when_0 {k : Nat} {pa pb : Nat} {ga : Nat → Nat} {I : pm_II} {J : pm_JJ} {Q : Option Value → pm_H → Prop} {x1 : Int32} {x2 : Int32} (h : Px k 176 m_Mo_findOrder 0 [.ref 120, .null, .null, .null, .null, .null, .null, .null, .null] [] (hp I J (pm_RT pa pb ga)) (fun r h' => h'.1 = 176 ∧ Px (k + 1) 176 m_Mo_when 4 [.ref 120, .int x1, .int x2] (r.toList ++ []) h' Q)) : Px (k + 1) 176 m_Mo_when 0 [.ref 120, .int x1, .int x2] [] (hp I J (pm_RT pa pb ga)) Q := by
  refine x_l 1 rfl rfl rfl ?_
  exact z_cv (As := []) (rest := []) (b := 120) rfl at_Mo_findOrder rfl rfl (Nat.le_of_ble_eq_true rfl) (Nat.le_of_ble_eq_true rfl) ⟨rfl, rfl, rfl⟩ (by decide) rfl h

theorem bk_Mo_when_4 {k : Nat} {pa pb : Nat} {ga : Nat → Nat} {I : pm_II} {J : pm_JJ} {Q : Option Value → pm_H → Prop} {x1 : Int32} {x2 : Int32} (h : Px k 176 m_Mo_is 0 [.int x1, .int 0, .int ((I 120 85) - (1 : Int32))] [] (hp I J (pm_RT pa pb ga)) (fun r h' => h'.1 = 176 ∧ Px (k + 1) 176 m_Mo_when 15 [.ref 120, .int x1, .int x2] (r.toList ++ []) h' Q)) : Px (k + 1) 176 m_Mo_when 4 [.ref 120, .int x1, .int x2] [] (hp I J (pm_RT pa pb ga)) Q := by
  refine x_l 5 rfl rfl rfl ?_
  refine z_k 6 0 rfl (by decide) rfl ?_
  refine x_l 7 rfl rfl rfl ?_
  refine z_gf 10 (.int (I 120 85)) rfl ⟨rfl, rfl, rfl⟩ rfl rfl ?_
  refine z_k 11 1 rfl (by decide) rfl ?_
  refine x_s 12 rfl rfl rfl ?_
  exact z_cs (As := [.int x1, .int 0, .int ((I 120 85) - (1 : Int32))]) (rest := []) rfl at_Mo_is rfl rfl (Nat.le_of_ble_eq_true rfl) (Nat.le_of_ble_eq_true rfl) rfl h

theorem bk_Mo_when_15 {k : Nat} {pa pb : Nat} {ga : Nat → Nat} {I : pm_II} {J : pm_JJ} {Q : Option Value → pm_H → Prop} {x1 : Int32} {x2 : Int32} {s0 : Int32} (h : ((s0 = 0 → Q (some (.int (-1))) (hp I J (pm_RT pa pb ga))) ∧ (¬ (s0 = 0) → Px k 176 m_Mo_is 0 [.int x2, .int 0, .int 4] [] (hp I J (pm_RT pa pb ga)) (fun r h' => h'.1 = 176 ∧ Px (k + 1) 176 m_Mo_when 24 [.ref 120, .int x1, .int x2] (r.toList ++ []) h' Q)))) : Px (k + 1) 176 m_Mo_when 15 [.ref 120, .int x1, .int x2] [.int s0] (hp I J (pm_RT pa pb ga)) Q := by
  refine x_b 18 rfl rfl rfl (fun c => ?_) (fun c => ?_)
  · have h := h.1 c
    refine z_k 41 (-1) rfl (by decide) rfl ?_
    exact x_ri rfl (Or.inl rfl) h
  · have h := h.2 c
    refine x_l 19 rfl rfl rfl ?_
    refine z_k 20 0 rfl (by decide) rfl ?_
    refine z_k 21 4 rfl (by decide) rfl ?_
    exact z_cs (As := [.int x2, .int 0, .int 4]) (rest := []) rfl at_Mo_is rfl rfl (Nat.le_of_ble_eq_true rfl) (Nat.le_of_ble_eq_true rfl) rfl h

theorem bk_Mo_when_24 {k : Nat} {pa pb : Nat} {ga : Nat → Nat} {I : pm_II} {J : pm_JJ} {Q : Option Value → pm_H → Prop} {x1 : Int32} {x2 : Int32} {s0 : Int32} (h : ((s0 = 0 → Q (some (.int (-1))) (hp I J (pm_RT pa pb ga))) ∧ (¬ (s0 = 0) → vp_in (((5 : Int32) * x1) + x2) 30 ∧ Q (some (.int (I 175 (((((5 : Int32) * x1) + x2) : Int32).toNatClampNeg)))) (hp I J (pm_RT pa pb ga))))) : Px (k + 1) 176 m_Mo_when 24 [.ref 120, .int x1, .int x2] [.int s0] (hp I J (pm_RT pa pb ga)) Q := by
  refine x_b 27 rfl rfl rfl (fun c => ?_) (fun c => ?_)
  · have h := h.1 c
    refine z_k 41 (-1) rfl (by decide) rfl ?_
    exact x_ri rfl (Or.inl rfl) h
  · have h := h.2 c
    refine x_l 28 rfl rfl rfl ?_
    refine z_gf 31 (.ref 175) rfl ⟨rfl, rfl, rfl⟩ rfl rfl ?_
    refine z_k 32 5 rfl (by decide) rfl ?_
    refine x_l 33 rfl rfl rfl ?_
    refine x_s 34 rfl rfl rfl ?_
    refine x_l 35 rfl rfl rfl ?_
    refine x_s 36 rfl rfl rfl ?_
    have h1 := h.1
    have h := h.2
    refine z_il 37 30 rfl ⟨rfl, rfl, rfl⟩ rfl h1 rfl ?_
    refine x_g rfl ?_
    exact x_ri rfl (Or.inl rfl) h

theorem bk_Mo_count_0 {k : Nat} {pa pb : Nat} {ga : Nat → Nat} {I : pm_II} {J : pm_JJ} {Q : Option Value → pm_H → Prop} {x1 : Int32} (h : Px k 176 m_Mo_findOrder 0 [.ref 120, .null, .null, .null, .null, .null, .null, .null, .null] [] (hp I J (pm_RT pa pb ga)) (fun r h' => h'.1 = 176 ∧ Px (k + 1) 176 m_Mo_count 4 [.ref 120, .int x1, .null, .null] (r.toList ++ []) h' Q)) : Px (k + 1) 176 m_Mo_count 0 [.ref 120, .int x1, .null, .null] [] (hp I J (pm_RT pa pb ga)) Q := by
  refine x_l 1 rfl rfl rfl ?_
  exact z_cv (As := []) (rest := []) (b := 120) rfl at_Mo_findOrder rfl rfl (Nat.le_of_ble_eq_true rfl) (Nat.le_of_ble_eq_true rfl) ⟨rfl, rfl, rfl⟩ (by decide) rfl h

theorem bk_Mo_count_4 {k : Nat} {pa pb : Nat} {ga : Nat → Nat} {I : pm_II} {J : pm_JJ} {Q : Option Value → pm_H → Prop} {x1 : Int32} (h : Px (k + 1) 176 m_Mo_count 8 [.ref 120, .int x1, .int 0, .int 0] [] (hp I J (pm_RT pa pb ga)) Q) : Px (k + 1) 176 m_Mo_count 4 [.ref 120, .int x1, .null, .null] [] (hp I J (pm_RT pa pb ga)) Q := by
  refine z_k 5 0 rfl (by decide) rfl ?_
  refine x_t 6 rfl rfl rfl ?_
  refine z_k 7 0 rfl (by decide) rfl ?_
  refine x_t 8 rfl rfl rfl ?_
  exact h

theorem bk_Mo_count_8 {k : Nat} {pa pb : Nat} {ga : Nat → Nat} {I : pm_II} {J : pm_JJ} {Q : Option Value → pm_H → Prop} {x1 : Int32} {x2 : Int32} {x3 : Int32} (h : (((I 120 15) ≤ x3 → ((x1 = nI 0 → Q (some (.int (I 120 88))) (hp I J (pm_RT pa pb ga))) ∧ (x1 = nI 1 → Q (some (.int (I 120 89))) (hp I J (pm_RT pa pb ga))) ∧ (x1 = nI 2 → Q (some (.int (I 120 90))) (hp I J (pm_RT pa pb ga))) ∧ (x1 = nI 3 → Q (some (.int (I 120 15))) (hp I J (pm_RT pa pb ga))) ∧ (x1 = nI 4 → Q (some (.int x2)) (hp I J (pm_RT pa pb ga))) ∧ (x1 = nI 5 → Q (some (.int ((I 120 18) * (I 120 19)))) (hp I J (pm_RT pa pb ga))) ∧ (x1 = nI 6 → Q (some (.int (I 120 20))) (hp I J (pm_RT pa pb ga))) ∧ (x1 = nI 7 → Q (some (.int (I 120 37))) (hp I J (pm_RT pa pb ga))) ∧ (x1 = nI 8 → Q (some (.int (I 120 38))) (hp I J (pm_RT pa pb ga))) ∧ (x1 = nI 9 → Q (some (.int (I 120 56))) (hp I J (pm_RT pa pb ga))) ∧ (x1 = nI 10 → Q (some (.int (I 120 65))) (hp I J (pm_RT pa pb ga))) ∧ (x1 = nI 11 → Q (some (.int (I 120 73))) (hp I J (pm_RT pa pb ga))) ∧ (x1 = nI 12 → Q (some (.int (I 120 77))) (hp I J (pm_RT pa pb ga))) ∧ (x1 = nI 13 → Q (some (.int (I 120 85))) (hp I J (pm_RT pa pb ga))) ∧ ((x1 < 0 ∨ nI 13 < x1) → Q (some (.int (-1))) (hp I J (pm_RT pa pb ga))))) ∧ (¬ ((I 120 15) ≤ x3) → Px k 176 m_Mo_waste 0 [.ref 120, .int x3, .null, .null] [] (hp I J (pm_RT pa pb ga)) (fun r h' => h'.1 = 176 ∧ Px (k + 1) 176 m_Mo_count 22 [.ref 120, .int x1, .int x2, .int x3] (r.toList ++ [.int x2]) h' Q)))) : Px (k + 1) 176 m_Mo_count 8 [.ref 120, .int x1, .int x2, .int x3] [] (hp I J (pm_RT pa pb ga)) Q := by
  refine x_l 9 rfl rfl rfl ?_
  refine x_l 10 rfl rfl rfl ?_
  refine z_gf 13 (.int (I 120 15)) rfl ⟨rfl, rfl, rfl⟩ rfl rfl ?_
  refine x_b 16 rfl rfl rfl (fun c => ?_) (fun c => ?_)
  · have h := h.1 c
    refine x_l 31 rfl rfl rfl ?_
    refine z_sw 13 (dt := 172) rfl rfl (by decide) (fun i hi e => ?_) (fun c => ?_)
    · match i, hi with
      | 0, _ =>
        refine ⟨_, 100, rfl, rfl, ?_⟩
        have h := h.1 e
        refine x_l 101 rfl rfl rfl ?_
        refine z_gf 104 (.int (I 120 88)) rfl ⟨rfl, rfl, rfl⟩ rfl rfl ?_
        exact x_ri rfl (Or.inl rfl) h
      | 1, _ =>
        refine ⟨_, 105, rfl, rfl, ?_⟩
        have h := h.2.1 e
        refine x_l 106 rfl rfl rfl ?_
        refine z_gf 109 (.int (I 120 89)) rfl ⟨rfl, rfl, rfl⟩ rfl rfl ?_
        exact x_ri rfl (Or.inl rfl) h
      | 2, _ =>
        refine ⟨_, 110, rfl, rfl, ?_⟩
        have h := h.2.2.1 e
        refine x_l 111 rfl rfl rfl ?_
        refine z_gf 114 (.int (I 120 90)) rfl ⟨rfl, rfl, rfl⟩ rfl rfl ?_
        exact x_ri rfl (Or.inl rfl) h
      | 3, _ =>
        refine ⟨_, 115, rfl, rfl, ?_⟩
        have h := h.2.2.2.1 e
        refine x_l 116 rfl rfl rfl ?_
        refine z_gf 119 (.int (I 120 15)) rfl ⟨rfl, rfl, rfl⟩ rfl rfl ?_
        exact x_ri rfl (Or.inl rfl) h
      | 4, _ =>
        refine ⟨_, 120, rfl, rfl, ?_⟩
        have h := h.2.2.2.2.1 e
        refine x_l 121 rfl rfl rfl ?_
        exact x_ri rfl (Or.inl rfl) h
      | 5, _ =>
        refine ⟨_, 122, rfl, rfl, ?_⟩
        have h := h.2.2.2.2.2.1 e
        refine x_l 123 rfl rfl rfl ?_
        refine z_gf 126 (.int (I 120 18)) rfl ⟨rfl, rfl, rfl⟩ rfl rfl ?_
        refine x_l 127 rfl rfl rfl ?_
        refine z_gf 130 (.int (I 120 19)) rfl ⟨rfl, rfl, rfl⟩ rfl rfl ?_
        refine x_s 131 rfl rfl rfl ?_
        exact x_ri rfl (Or.inl rfl) h
      | 6, _ =>
        refine ⟨_, 132, rfl, rfl, ?_⟩
        have h := h.2.2.2.2.2.2.1 e
        refine x_l 133 rfl rfl rfl ?_
        refine z_gf 136 (.int (I 120 20)) rfl ⟨rfl, rfl, rfl⟩ rfl rfl ?_
        exact x_ri rfl (Or.inl rfl) h
      | 7, _ =>
        refine ⟨_, 137, rfl, rfl, ?_⟩
        have h := h.2.2.2.2.2.2.2.1 e
        refine x_l 138 rfl rfl rfl ?_
        refine z_gf 141 (.int (I 120 37)) rfl ⟨rfl, rfl, rfl⟩ rfl rfl ?_
        exact x_ri rfl (Or.inl rfl) h
      | 8, _ =>
        refine ⟨_, 142, rfl, rfl, ?_⟩
        have h := h.2.2.2.2.2.2.2.2.1 e
        refine x_l 143 rfl rfl rfl ?_
        refine z_gf 146 (.int (I 120 38)) rfl ⟨rfl, rfl, rfl⟩ rfl rfl ?_
        exact x_ri rfl (Or.inl rfl) h
      | 9, _ =>
        refine ⟨_, 147, rfl, rfl, ?_⟩
        have h := h.2.2.2.2.2.2.2.2.2.1 e
        refine x_l 148 rfl rfl rfl ?_
        refine z_gf 151 (.int (I 120 56)) rfl ⟨rfl, rfl, rfl⟩ rfl rfl ?_
        exact x_ri rfl (Or.inl rfl) h
      | 10, _ =>
        refine ⟨_, 152, rfl, rfl, ?_⟩
        have h := h.2.2.2.2.2.2.2.2.2.2.1 e
        refine x_l 153 rfl rfl rfl ?_
        refine z_gf 156 (.int (I 120 65)) rfl ⟨rfl, rfl, rfl⟩ rfl rfl ?_
        exact x_ri rfl (Or.inl rfl) h
      | 11, _ =>
        refine ⟨_, 157, rfl, rfl, ?_⟩
        have h := h.2.2.2.2.2.2.2.2.2.2.2.1 e
        refine x_l 158 rfl rfl rfl ?_
        refine z_gf 161 (.int (I 120 73)) rfl ⟨rfl, rfl, rfl⟩ rfl rfl ?_
        exact x_ri rfl (Or.inl rfl) h
      | 12, _ =>
        refine ⟨_, 162, rfl, rfl, ?_⟩
        have h := h.2.2.2.2.2.2.2.2.2.2.2.2.1 e
        refine x_l 163 rfl rfl rfl ?_
        refine z_gf 166 (.int (I 120 77)) rfl ⟨rfl, rfl, rfl⟩ rfl rfl ?_
        exact x_ri rfl (Or.inl rfl) h
      | 13, _ =>
        refine ⟨_, 167, rfl, rfl, ?_⟩
        have h := h.2.2.2.2.2.2.2.2.2.2.2.2.2.1 e
        refine x_l 168 rfl rfl rfl ?_
        refine z_gf 171 (.int (I 120 85)) rfl ⟨rfl, rfl, rfl⟩ rfl rfl ?_
        exact x_ri rfl (Or.inl rfl) h
      | n + 14, hi => exact absurd hi (by omega)
    · have h := h.2.2.2.2.2.2.2.2.2.2.2.2.2.2 c
      refine z_k 173 (-1) rfl (by decide) rfl ?_
      exact x_ri rfl (Or.inl rfl) h
  · have h := h.2 c
    refine x_l 17 rfl rfl rfl ?_
    refine x_l 18 rfl rfl rfl ?_
    refine x_l 19 rfl rfl rfl ?_
    exact z_cv (As := [.int x3]) (rest := [.int x2]) (b := 120) rfl at_Mo_waste rfl rfl (Nat.le_of_ble_eq_true rfl) (Nat.le_of_ble_eq_true rfl) ⟨rfl, rfl, rfl⟩ (by decide) rfl h

theorem bk_Mo_count_22 {k : Nat} {pa pb : Nat} {ga : Nat → Nat} {I : pm_II} {J : pm_JJ} {Q : Option Value → pm_H → Prop} {x1 : Int32} {x2 : Int32} {x3 : Int32} {s0 : Int32} {s1 : Int32} (h : Px (k + 1) 176 m_Mo_count 8 [.ref 120, .int x1, .int (s0 + s1), .int (x3 + Int32.ofInt 1)] [] (hp I J (pm_RT pa pb ga)) Q) : Px (k + 1) 176 m_Mo_count 22 [.ref 120, .int x1, .int x2, .int x3] [.int s1, .int s0] (hp I J (pm_RT pa pb ga)) Q := by
  refine x_s 23 rfl rfl rfl ?_
  refine x_t 24 rfl rfl rfl ?_
  refine x_t 27 rfl rfl rfl ?_
  refine x_g rfl ?_
  exact h
