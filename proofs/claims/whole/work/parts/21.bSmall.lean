theorem bk_Fo_foldSheet_0 {k : Nat} {pa pb : Nat} {ga : Nat → Nat} {I : pm_II} {J : pm_JJ} {Q : Option Value → pm_H → Prop} {x1 : Int32} {x2 : Int32} {x3 : Int32} (h : Px (k + 1) 176 m_Fo_foldSheet 28 [.ref 29, .int x1, .int x2, .int x3, .int 0] [] (hp (pm_up (pm_up (pm_up (pm_up (pm_up I 29 6 x1) 29 7 x2) 29 8 x1) 29 9 x2) 29 10 1) J (pm_RT pa pb ga)) Q) : Px (k + 1) 176 m_Fo_foldSheet 0 [.ref 29, .int x1, .int x2, .int x3, .null] [] (hp I J (pm_RT pa pb ga)) Q := by
  refine x_l 1 rfl rfl rfl ?_
  refine x_l 2 rfl rfl rfl ?_
  refine z_pi 5 rfl (Or.inl rfl) rfl (fun z => by cases z) ⟨rfl, rfl, rfl⟩ rfl ?_
  refine x_l 6 rfl rfl rfl ?_
  refine x_l 7 rfl rfl rfl ?_
  refine z_pi 10 rfl (Or.inl rfl) rfl (fun z => by cases z) ⟨rfl, rfl, rfl⟩ rfl ?_
  refine x_l 11 rfl rfl rfl ?_
  refine x_l 12 rfl rfl rfl ?_
  refine z_pi 15 rfl (Or.inl rfl) rfl (fun z => by cases z) ⟨rfl, rfl, rfl⟩ rfl ?_
  refine x_l 16 rfl rfl rfl ?_
  refine x_l 17 rfl rfl rfl ?_
  refine z_pi 20 rfl (Or.inl rfl) rfl (fun z => by cases z) ⟨rfl, rfl, rfl⟩ rfl ?_
  refine x_l 21 rfl rfl rfl ?_
  refine z_k 22 1 rfl (by decide) rfl ?_
  refine z_pi 25 rfl (Or.inl rfl) rfl (fun z => by cases z) ⟨rfl, rfl, rfl⟩ rfl ?_
  refine z_k 26 0 rfl (by decide) rfl ?_
  refine x_t 28 rfl rfl rfl ?_
  exact h

theorem bk_Fo_foldSheet_28 {k : Nat} {pa pb : Nat} {ga : Nat → Nat} {I : pm_II} {J : pm_JJ} {Q : Option Value → pm_H → Prop} {x1 : Int32} {x2 : Int32} {x3 : Int32} {x4 : Int32} (h : ((64 ≤ x4 → Px (k + 1) 176 m_Fo_foldSheet 69 [.ref 29, .int x1, .int x2, .int x3, .int 0] [] (hp I J (pm_RT pa pb ga)) Q) ∧ (¬ (64 ≤ x4) → vp_in x4 64 ∧ vp_in x4 64 ∧ vp_in x4 64 ∧ Px (k + 1) 176 m_Fo_foldSheet 28 [.ref 29, .int x1, .int x2, .int x3, .int (x4 + Int32.ofInt 1)] [] (hp (pm_up (pm_up (pm_up I 31 ((x4 : Int32).toNatClampNeg) x4) 34 ((x4 : Int32).toNatClampNeg) 0) 35 ((x4 : Int32).toNatClampNeg) 0) J (pm_RT pa pb ga)) Q))) : Px (k + 1) 176 m_Fo_foldSheet 28 [.ref 29, .int x1, .int x2, .int x3, .int x4] [] (hp I J (pm_RT pa pb ga)) Q := by
  refine x_l 30 rfl rfl rfl ?_
  refine z_k 32 64 rfl (by decide) rfl ?_
  refine x_b 35 rfl rfl rfl (fun c => ?_) (fun c => ?_)
  · have h := h.1 c
    refine z_k 67 0 rfl (by decide) rfl ?_
    refine x_t 69 rfl rfl rfl ?_
    exact h
  · have h := h.2 c
    refine x_l 36 rfl rfl rfl ?_
    refine z_gf 39 (.ref 31) rfl ⟨rfl, rfl, rfl⟩ rfl rfl ?_
    refine x_l 41 rfl rfl rfl ?_
    refine x_l 43 rfl rfl rfl ?_
    have h1 := h.1
    have h := h.2
    refine z_is 44 64 rfl ⟨rfl, rfl, rfl⟩ rfl h1 rfl ?_
    refine x_l 45 rfl rfl rfl ?_
    refine z_gf 48 (.ref 34) rfl ⟨rfl, rfl, rfl⟩ rfl rfl ?_
    refine x_l 50 rfl rfl rfl ?_
    refine z_k 51 0 rfl (by decide) rfl ?_
    have h1 := h.1
    have h := h.2
    refine z_is 52 64 rfl ⟨rfl, rfl, rfl⟩ rfl h1 rfl ?_
    refine x_l 53 rfl rfl rfl ?_
    refine z_gf 56 (.ref 35) rfl ⟨rfl, rfl, rfl⟩ rfl rfl ?_
    refine x_l 58 rfl rfl rfl ?_
    refine z_k 59 0 rfl (by decide) rfl ?_
    have h1 := h.1
    have h := h.2
    refine z_is 60 64 rfl ⟨rfl, rfl, rfl⟩ rfl h1 rfl ?_
    refine x_t 63 rfl rfl rfl ?_
    refine x_g rfl ?_
    exact h

theorem bk_Fo_foldSheet_69 {k : Nat} {pa pb : Nat} {ga : Nat → Nat} {I : pm_II} {J : pm_JJ} {Q : Option Value → pm_H → Prop} {x1 : Int32} {x2 : Int32} {x3 : Int32} {x4 : Int32} (h : ((x3 ≤ x4 → Px (k + 1) 176 m_Fo_foldSheet 99 [.ref 29, .int x1, .int x2, .int x3, .int x4] [] (hp I J (pm_RT pa pb ga)) Q) ∧ (¬ (x3 ≤ x4) → ((6 ≤ x4 → Px (k + 1) 176 m_Fo_foldSheet 99 [.ref 29, .int x1, .int x2, .int x3, .int x4] [] (hp I J (pm_RT pa pb ga)) Q) ∧ (¬ (6 ≤ x4) → vp_in x4 6 ∧ Px k 176 m_Fo_foldOver 0 [.ref 29, .int (I 30 ((x4 : Int32).toNatClampNeg)), .null, .null, .null, .null, .null, .null, .null, .null, .null, .null, .null, .null] [] (hp I J (pm_RT pa pb ga)) (fun r h' => h'.1 = 176 ∧ Px (k + 1) 176 m_Fo_foldSheet 93 [.ref 29, .int x1, .int x2, .int x3, .int x4] (r.toList ++ []) h' Q)))))) : Px (k + 1) 176 m_Fo_foldSheet 69 [.ref 29, .int x1, .int x2, .int x3, .int x4] [] (hp I J (pm_RT pa pb ga)) Q := by
  refine x_l 71 rfl rfl rfl ?_
  refine x_l 72 rfl rfl rfl ?_
  refine x_b 75 rfl rfl rfl (fun c => ?_) (fun c => ?_)
  · have h := h.1 c
    exact h
  · have h := h.2 c
    refine x_l 77 rfl rfl rfl ?_
    refine z_k 79 6 rfl (by decide) rfl ?_
    refine x_b 82 rfl rfl rfl (fun c => ?_) (fun c => ?_)
    · have h := h.1 c
      exact h
    · have h := h.2 c
      refine x_l 83 rfl rfl rfl ?_
      refine x_l 84 rfl rfl rfl ?_
      refine z_gf 87 (.ref 30) rfl ⟨rfl, rfl, rfl⟩ rfl rfl ?_
      refine x_l 89 rfl rfl rfl ?_
      have h1 := h.1
      have h := h.2
      refine z_il 90 6 rfl ⟨rfl, rfl, rfl⟩ rfl h1 rfl ?_
      exact z_cv (As := [.int (I 30 ((x4 : Int32).toNatClampNeg))]) (rest := []) (b := 29) rfl at_Fo_foldOver rfl rfl (Nat.le_of_ble_eq_true rfl) (Nat.le_of_ble_eq_true rfl) ⟨rfl, rfl, rfl⟩ (by decide) rfl h

theorem bk_Fo_foldSheet_93 {k : Nat} {pa pb : Nat} {ga : Nat → Nat} {I : pm_II} {J : pm_JJ} {Q : Option Value → pm_H → Prop} {x1 : Int32} {x2 : Int32} {x3 : Int32} {x4 : Int32} (h : Px (k + 1) 176 m_Fo_foldSheet 69 [.ref 29, .int x1, .int x2, .int x3, .int (x4 + Int32.ofInt 1)] [] (hp I J (pm_RT pa pb ga)) Q) : Px (k + 1) 176 m_Fo_foldSheet 93 [.ref 29, .int x1, .int x2, .int x3, .int x4] [] (hp I J (pm_RT pa pb ga)) Q := by
  refine x_t 96 rfl rfl rfl ?_
  refine x_g rfl ?_
  exact h

theorem bk_Fo_foldSheet_99 {k : Nat} {pa pb : Nat} {ga : Nat → Nat} {I : pm_II} {J : pm_JJ} {Q : Option Value → pm_H → Prop} {x1 : Int32} {x2 : Int32} {x3 : Int32} {x4 : Int32} (h : Px (k + 1) 176 m_Fo_foldSheet 102 [.ref 29, .int x1, .int x2, .int x3, .int 0] [] (hp I J (pm_RT pa pb ga)) Q) : Px (k + 1) 176 m_Fo_foldSheet 99 [.ref 29, .int x1, .int x2, .int x3, .int x4] [] (hp I J (pm_RT pa pb ga)) Q := by
  refine z_k 100 0 rfl (by decide) rfl ?_
  refine x_t 102 rfl rfl rfl ?_
  exact h

theorem bk_Fo_foldSheet_102 {k : Nat} {pa pb : Nat} {ga : Nat → Nat} {I : pm_II} {J : pm_JJ} {Q : Option Value → pm_H → Prop} {x1 : Int32} {x2 : Int32} {x3 : Int32} {x4 : Int32} (h : Px k 176 m_Fo_leaves 0 [.ref 29] [] (hp I J (pm_RT pa pb ga)) (fun r h' => h'.1 = 176 ∧ Px (k + 1) 176 m_Fo_foldSheet 108 [.ref 29, .int x1, .int x2, .int x3, .int x4] (r.toList ++ [.int x4]) h' Q)) : Px (k + 1) 176 m_Fo_foldSheet 102 [.ref 29, .int x1, .int x2, .int x3, .int x4] [] (hp I J (pm_RT pa pb ga)) Q := by
  refine x_l 104 rfl rfl rfl ?_
  refine x_l 105 rfl rfl rfl ?_
  exact z_cv (As := []) (rest := [.int x4]) (b := 29) rfl at_Fo_leaves rfl rfl (Nat.le_of_ble_eq_true rfl) (Nat.le_of_ble_eq_true rfl) ⟨rfl, rfl, rfl⟩ (by decide) rfl h

theorem bk_Fo_foldSheet_108 {k : Nat} {pa pb : Nat} {ga : Nat → Nat} {I : pm_II} {J : pm_JJ} {Q : Option Value → pm_H → Prop} {x1 : Int32} {x2 : Int32} {x3 : Int32} {x4 : Int32} {s0 : Int32} {s1 : Int32} (h : ((s1 ≤ s0 → Px (k + 1) 176 m_Fo_foldSheet 138 [.ref 29, .int x1, .int x2, .int x3, .int x4] [] (hp I J (pm_RT pa pb ga)) Q) ∧ (¬ (s1 ≤ s0) → ((64 ≤ x4 → Px (k + 1) 176 m_Fo_foldSheet 138 [.ref 29, .int x1, .int x2, .int x3, .int x4] [] (hp I J (pm_RT pa pb ga)) Q) ∧ (¬ (64 ≤ x4) → vp_in x4 64 ∧ vp_in (I 31 ((x4 : Int32).toNatClampNeg)) 64 ∧ Px (k + 1) 176 m_Fo_foldSheet 102 [.ref 29, .int x1, .int x2, .int x3, .int (x4 + Int32.ofInt 1)] [] (hp (pm_up I 33 (((I 31 ((x4 : Int32).toNatClampNeg)) : Int32).toNatClampNeg) x4) J (pm_RT pa pb ga)) Q))))) : Px (k + 1) 176 m_Fo_foldSheet 108 [.ref 29, .int x1, .int x2, .int x3, .int x4] [.int s1, .int s0] (hp I J (pm_RT pa pb ga)) Q := by
  refine x_b 111 rfl rfl rfl (fun c => ?_) (fun c => ?_)
  · have h := h.1 c
    exact h
  · have h := h.2 c
    refine x_l 113 rfl rfl rfl ?_
    refine z_k 115 64 rfl (by decide) rfl ?_
    refine x_b 118 rfl rfl rfl (fun c => ?_) (fun c => ?_)
    · have h := h.1 c
      exact h
    · have h := h.2 c
      refine x_l 119 rfl rfl rfl ?_
      refine z_gf 122 (.ref 33) rfl ⟨rfl, rfl, rfl⟩ rfl rfl ?_
      refine x_l 123 rfl rfl rfl ?_
      refine z_gf 126 (.ref 31) rfl ⟨rfl, rfl, rfl⟩ rfl rfl ?_
      refine x_l 128 rfl rfl rfl ?_
      have h1 := h.1
      have h := h.2
      refine z_il 129 64 rfl ⟨rfl, rfl, rfl⟩ rfl h1 rfl ?_
      refine x_l 131 rfl rfl rfl ?_
      have h1 := h.1
      have h := h.2
      refine z_is 132 64 rfl ⟨rfl, rfl, rfl⟩ rfl h1 rfl ?_
      refine x_t 135 rfl rfl rfl ?_
      refine x_g rfl ?_
      exact h

theorem bk_Fo_foldSheet_138 {k : Nat} {pa pb : Nat} {ga : Nat → Nat} {I : pm_II} {J : pm_JJ} {Q : Option Value → pm_H → Prop} {x1 : Int32} {x2 : Int32} {x3 : Int32} {x4 : Int32} (h : Q none (hp I J (pm_RT pa pb ga))) : Px (k + 1) 176 m_Fo_foldSheet 138 [.ref 29, .int x1, .int x2, .int x3, .int x4] [] (hp I J (pm_RT pa pb ga)) Q := by
  exact x_rv rfl rfl h

theorem bk_Fo_foldOver_0 {k : Nat} {pa pb : Nat} {ga : Nat → Nat} {I : pm_II} {J : pm_JJ} {Q : Option Value → pm_H → Prop} {x1 : Int32} (h : Px (k + 2) 176 m_Fo_foldOver 15 [.ref 29, .int x1, .null, .null, .null, .null, .null, .null, .null, .null, .null, .null, .null, .null] [] (pm_cpy (hp I J (pm_RT pa pb ga)) 31 0 32 0 64) Q) : Px (k + 2) 176 m_Fo_foldOver 0 [.ref 29, .int x1, .null, .null, .null, .null, .null, .null, .null, .null, .null, .null, .null, .null] [] (hp I J (pm_RT pa pb ga)) Q := by
  refine x_l 1 rfl rfl rfl ?_
  refine z_gf 4 (.ref 31) rfl ⟨rfl, rfl, rfl⟩ rfl rfl ?_
  refine z_k 5 0 rfl (by decide) rfl ?_
  refine x_l 6 rfl rfl rfl ?_
  refine z_gf 9 (.ref 32) rfl ⟨rfl, rfl, rfl⟩ rfl rfl ?_
  refine z_k 10 0 rfl (by decide) rfl ?_
  refine z_k 12 64 rfl (by decide) rfl ?_
  exact x_cp (sp := 0) (dp := 0) (n := 64) 15 rfl rfl rfl (K16 rfl) (L176 rfl) (K16 rfl) (L176 rfl) (by decide) (Nat.le_of_ble_eq_true rfl) (Nat.le_of_ble_eq_true rfl) (Nat.le_of_ble_eq_true rfl) (Nat.le_of_ble_eq_true rfl) (Nat.le_of_ble_eq_true rfl) (by omega) rfl h

theorem bk_Fo_foldOver_19 {k : Nat} {pa pb : Nat} {ga : Nat → Nat} {I : pm_II} {J : pm_JJ} {Q : Option Value → pm_H → Prop} {x1 : Int32} {s0 : Int32} (h : ((x1 = 108 → Px (k + 2) 176 m_Fo_foldOver 37 [.ref 29, .int x1, .int s0, .null, .null, .null, .null, .null, .null, .null, .null, .null, .null, .null] [.int 1] (hp I J (pm_RT pa pb ga)) Q) ∧ (¬ (x1 = 108) → ((¬ x1 = 116 → Px (k + 2) 176 m_Fo_foldOver 37 [.ref 29, .int x1, .int s0, .null, .null, .null, .null, .null, .null, .null, .null, .null, .null, .null] [.int 0] (hp I J (pm_RT pa pb ga)) Q) ∧ (¬ (¬ x1 = 116) → Px (k + 2) 176 m_Fo_foldOver 37 [.ref 29, .int x1, .int s0, .null, .null, .null, .null, .null, .null, .null, .null, .null, .null, .null] [.int 1] (hp I J (pm_RT pa pb ga)) Q))))) : Px (k + 2) 176 m_Fo_foldOver 19 [.ref 29, .int x1, .null, .null, .null, .null, .null, .null, .null, .null, .null, .null, .null, .null] [.int s0] (hp I J (pm_RT pa pb ga)) Q := by
  refine x_t 20 rfl rfl rfl ?_
  refine x_l 21 rfl rfl rfl ?_
  refine z_k 23 108 rfl (by decide) rfl ?_
  refine x_b 26 rfl rfl rfl (fun c => ?_) (fun c => ?_)
  · have h := h.1 c
    refine z_k 33 1 rfl (by decide) rfl ?_
    refine x_g rfl ?_
    exact h
  · have h := h.2 c
    refine x_l 27 rfl rfl rfl ?_
    refine z_k 29 116 rfl (by decide) rfl ?_
    refine x_b 32 rfl rfl rfl (fun c => ?_) (fun c => ?_)
    · have h := h.1 c
      refine z_k 37 0 rfl (by decide) rfl ?_
      exact h
    · have h := h.2 c
      refine z_k 33 1 rfl (by decide) rfl ?_
      refine x_g rfl ?_
      exact h

theorem bk_Fo_foldOver_37 {k : Nat} {pa pb : Nat} {ga : Nat → Nat} {I : pm_II} {J : pm_JJ} {Q : Option Value → pm_H → Prop} {x1 : Int32} {x2 : Int32} {s0 : Int32} (h : ((x2 = 0 → Px (k + 2) 176 m_Fo_foldOver 55 [.ref 29, .int x1, .int x2, .int s0, .null, .null, .null, .null, .null, .null, .null, .null, .null, .null] [.int ((I 29 8) / 2)] (hp I J (pm_RT pa pb ga)) Q) ∧ (¬ (x2 = 0) → Px (k + 2) 176 m_Fo_foldOver 55 [.ref 29, .int x1, .int x2, .int s0, .null, .null, .null, .null, .null, .null, .null, .null, .null, .null] [.int (I 29 8)] (hp I J (pm_RT pa pb ga)) Q))) : Px (k + 2) 176 m_Fo_foldOver 37 [.ref 29, .int x1, .int x2, .null, .null, .null, .null, .null, .null, .null, .null, .null, .null, .null] [.int s0] (hp I J (pm_RT pa pb ga)) Q := by
  refine x_t 38 rfl rfl rfl ?_
  refine x_l 39 rfl rfl rfl ?_
  refine x_b 42 rfl rfl rfl (fun c => ?_) (fun c => ?_)
  · have h := h.1 c
    refine x_l 50 rfl rfl rfl ?_
    refine z_gf 53 (.int (I 29 8)) rfl ⟨rfl, rfl, rfl⟩ rfl rfl ?_
    refine z_k 54 2 rfl (by decide) rfl ?_
    refine x_dv 55 rfl (by decide) rfl ?_
    exact h
  · have h := h.2 c
    refine x_l 43 rfl rfl rfl ?_
    refine z_gf 46 (.int (I 29 8)) rfl ⟨rfl, rfl, rfl⟩ rfl rfl ?_
    refine x_g rfl ?_
    exact h

theorem bk_Fo_foldOver_55 {k : Nat} {pa pb : Nat} {ga : Nat → Nat} {I : pm_II} {J : pm_JJ} {Q : Option Value → pm_H → Prop} {x1 : Int32} {x2 : Int32} {x3 : Int32} {s0 : Int32} (h : ((x2 = 0 → Px (k + 2) 176 m_Fo_foldOver 74 [.ref 29, .int x1, .int x2, .int x3, .int s0, .null, .null, .null, .null, .null, .null, .null, .null, .null] [.int (I 29 9)] (hp I J (pm_RT pa pb ga)) Q) ∧ (¬ (x2 = 0) → Px (k + 2) 176 m_Fo_foldOver 74 [.ref 29, .int x1, .int x2, .int x3, .int s0, .null, .null, .null, .null, .null, .null, .null, .null, .null] [.int ((I 29 9) / 2)] (hp I J (pm_RT pa pb ga)) Q))) : Px (k + 2) 176 m_Fo_foldOver 55 [.ref 29, .int x1, .int x2, .int x3, .null, .null, .null, .null, .null, .null, .null, .null, .null, .null] [.int s0] (hp I J (pm_RT pa pb ga)) Q := by
  refine x_t 57 rfl rfl rfl ?_
  refine x_l 58 rfl rfl rfl ?_
  refine x_b 61 rfl rfl rfl (fun c => ?_) (fun c => ?_)
  · have h := h.1 c
    refine x_l 71 rfl rfl rfl ?_
    refine z_gf 74 (.int (I 29 9)) rfl ⟨rfl, rfl, rfl⟩ rfl rfl ?_
    exact h
  · have h := h.2 c
    refine x_l 62 rfl rfl rfl ?_
    refine z_gf 65 (.int (I 29 9)) rfl ⟨rfl, rfl, rfl⟩ rfl rfl ?_
    refine z_k 66 2 rfl (by decide) rfl ?_
    refine x_dv 67 rfl (by decide) rfl ?_
    refine x_g rfl ?_
    exact h

theorem bk_Fo_foldOver_74 {k : Nat} {pa pb : Nat} {ga : Nat → Nat} {I : pm_II} {J : pm_JJ} {Q : Option Value → pm_H → Prop} {x1 : Int32} {x2 : Int32} {x3 : Int32} {x4 : Int32} {s0 : Int32} (h : ((¬ x2 = 0 → Px (k + 2) 176 m_Fo_foldOver 90 [.ref 29, .int x1, .int x2, .int x3, .int x4, .int s0, .null, .null, .null, .null, .null, .null, .null, .null] [.int 0] (hp I J (pm_RT pa pb ga)) Q) ∧ (¬ (¬ x2 = 0) → ((x3 = 0 → Px (k + 2) 176 m_Fo_foldOver 90 [.ref 29, .int x1, .int x2, .int x3, .int x4, .int s0, .null, .null, .null, .null, .null, .null, .null, .null] [.int 0] (hp I J (pm_RT pa pb ga)) Q) ∧ (¬ (x3 = 0) → Px (k + 2) 176 m_Fo_foldOver 90 [.ref 29, .int x1, .int x2, .int x3, .int x4, .int s0, .null, .null, .null, .null, .null, .null, .null, .null] [.int x4] (hp I J (pm_RT pa pb ga)) Q))))) : Px (k + 2) 176 m_Fo_foldOver 74 [.ref 29, .int x1, .int x2, .int x3, .int x4, .null, .null, .null, .null, .null, .null, .null, .null, .null] [.int s0] (hp I J (pm_RT pa pb ga)) Q := by
  refine x_t 76 rfl rfl rfl ?_
  refine x_l 77 rfl rfl rfl ?_
  refine x_b 80 rfl rfl rfl (fun c => ?_) (fun c => ?_)
  · have h := h.1 c
    refine z_k 90 0 rfl (by decide) rfl ?_
    exact h
  · have h := h.2 c
    refine x_l 81 rfl rfl rfl ?_
    refine x_b 84 rfl rfl rfl (fun c => ?_) (fun c => ?_)
    · have h := h.1 c
      refine z_k 90 0 rfl (by decide) rfl ?_
      exact h
    · have h := h.2 c
      refine x_l 86 rfl rfl rfl ?_
      refine x_g rfl ?_
      exact h

theorem bk_Fo_foldOver_90 {k : Nat} {pa pb : Nat} {ga : Nat → Nat} {I : pm_II} {J : pm_JJ} {Q : Option Value → pm_H → Prop} {x1 : Int32} {x2 : Int32} {x3 : Int32} {x4 : Int32} {x5 : Int32} {s0 : Int32} (h : ((x2 = 0 → Px (k + 2) 176 m_Fo_foldOver 111 [.ref 29, .int x1, .int x2, .int x3, .int x4, .int x5, .int s0, .int 0, .int 0, .null, .null, .null, .null, .null] [] (hp I J (pm_RT pa pb ga)) Q) ∧ (¬ (x2 = 0) → ((x3 = 0 → Px (k + 2) 176 m_Fo_foldOver 111 [.ref 29, .int x1, .int x2, .int x3, .int x4, .int x5, .int s0, .int 0, .int 0, .null, .null, .null, .null, .null] [] (hp I J (pm_RT pa pb ga)) Q) ∧ (¬ (x3 = 0) → Px (k + 2) 176 m_Fo_foldOver 111 [.ref 29, .int x1, .int x2, .int x3, .int x4, .int x5, .int s0, .int x5, .int 0, .null, .null, .null, .null, .null] [] (hp I J (pm_RT pa pb ga)) Q))))) : Px (k + 2) 176 m_Fo_foldOver 90 [.ref 29, .int x1, .int x2, .int x3, .int x4, .int x5, .null, .null, .null, .null, .null, .null, .null, .null] [.int s0] (hp I J (pm_RT pa pb ga)) Q := by
  refine x_t 92 rfl rfl rfl ?_
  refine x_l 93 rfl rfl rfl ?_
  refine x_b 96 rfl rfl rfl (fun c => ?_) (fun c => ?_)
  · have h := h.1 c
    refine z_k 106 0 rfl (by decide) rfl ?_
    refine x_t 108 rfl rfl rfl ?_
    refine z_k 109 0 rfl (by decide) rfl ?_
    refine x_t 111 rfl rfl rfl ?_
    exact h
  · have h := h.2 c
    refine x_l 97 rfl rfl rfl ?_
    refine x_b 100 rfl rfl rfl (fun c => ?_) (fun c => ?_)
    · have h := h.1 c
      refine z_k 106 0 rfl (by decide) rfl ?_
      refine x_t 108 rfl rfl rfl ?_
      refine z_k 109 0 rfl (by decide) rfl ?_
      refine x_t 111 rfl rfl rfl ?_
      exact h
    · have h := h.2 c
      refine x_l 102 rfl rfl rfl ?_
      refine x_g rfl ?_
      refine x_t 108 rfl rfl rfl ?_
      refine z_k 109 0 rfl (by decide) rfl ?_
      refine x_t 111 rfl rfl rfl ?_
      exact h

theorem bk_Fo_foldOver_111 {k : Nat} {pa pb : Nat} {ga : Nat → Nat} {I : pm_II} {J : pm_JJ} {Q : Option Value → pm_H → Prop} {x1 : Int32} {x2 : Int32} {x3 : Int32} {x4 : Int32} {x5 : Int32} {x6 : Int32} {x7 : Int32} {x8 : Int32} (h : ((x4 ≤ x8 → Q none (hp (pm_up (pm_up (pm_up I 29 8 x4) 29 9 x5) 29 10 ((I 29 10) * (2 : Int32))) J (pm_RT pa pb ga))) ∧ (¬ (x4 ≤ x8) → Px (k + 2) 176 m_Fo_foldOver 121 [.ref 29, .int x1, .int x2, .int x3, .int x4, .int x5, .int x6, .int x7, .int x8, .int 0, .null, .null, .null, .null] [] (hp I J (pm_RT pa pb ga)) Q))) : Px (k + 2) 176 m_Fo_foldOver 111 [.ref 29, .int x1, .int x2, .int x3, .int x4, .int x5, .int x6, .int x7, .int x8, .null, .null, .null, .null, .null] [] (hp I J (pm_RT pa pb ga)) Q := by
  refine x_l 113 rfl rfl rfl ?_
  refine x_l 115 rfl rfl rfl ?_
  refine x_b 118 rfl rfl rfl (fun c => ?_) (fun c => ?_)
  · have h := h.1 c
    refine x_l 227 rfl rfl rfl ?_
    refine x_l 229 rfl rfl rfl ?_
    refine z_pi 232 rfl (Or.inl rfl) rfl (fun z => by cases z) ⟨rfl, rfl, rfl⟩ rfl ?_
    refine x_l 233 rfl rfl rfl ?_
    refine x_l 235 rfl rfl rfl ?_
    refine z_pi 238 rfl (Or.inl rfl) rfl (fun z => by cases z) ⟨rfl, rfl, rfl⟩ rfl ?_
    refine x_l 239 rfl rfl rfl ?_
    refine x_s 240 rfl rfl rfl ?_
    refine z_gf 243 (.int (I 29 10)) rfl ⟨rfl, rfl, rfl⟩ rfl rfl ?_
    refine z_k 244 2 rfl (by decide) rfl ?_
    refine x_s 245 rfl rfl rfl ?_
    refine z_pi 248 rfl (Or.inl rfl) rfl (fun z => by cases z) ⟨rfl, rfl, rfl⟩ rfl ?_
    exact x_rv rfl rfl h
  · have h := h.2 c
    refine z_k 119 0 rfl (by decide) rfl ?_
    refine x_t 121 rfl rfl rfl ?_
    exact h

theorem bk_Fo_foldOver_121 {k : Nat} {pa pb : Nat} {ga : Nat → Nat} {I : pm_II} {J : pm_JJ} {Q : Option Value → pm_H → Prop} {x1 : Int32} {x2 : Int32} {x3 : Int32} {x4 : Int32} {x5 : Int32} {x6 : Int32} {x7 : Int32} {x8 : Int32} {x9 : Int32} (h : ((x5 ≤ x9 → Px (k + 2) 176 m_Fo_foldOver 111 [.ref 29, .int x1, .int x2, .int x3, .int x4, .int x5, .int x6, .int x7, .int (x8 + Int32.ofInt 1), .int x9, .null, .null, .null, .null] [] (hp I J (pm_RT pa pb ga)) Q) ∧ (¬ (x5 ≤ x9) → ((x2 = 0 → Px (k + 2) 176 m_Fo_foldOver 195 [.ref 29, .int x1, .int x2, .int x3, .int x4, .int x5, .int x6, .int x7, .int x8, .int x9, .int (x8 + x6), .int (x9 + x7), .int (((x8 + x6) * (I 29 9)) + (x9 + x7)), .null] [.int (((((I 29 8) - (1 : Int32)) - (x8 + x6)) * (I 29 9)) + (x9 + x7))] (hp I J (pm_RT pa pb ga)) Q) ∧ (¬ (x2 = 0) → Px (k + 2) 176 m_Fo_foldOver 195 [.ref 29, .int x1, .int x2, .int x3, .int x4, .int x5, .int x6, .int x7, .int x8, .int x9, .int (x8 + x6), .int (x9 + x7), .int (((x8 + x6) * (I 29 9)) + (x9 + x7)), .null] [.int (((((x8 + x6) * (I 29 9)) + (I 29 9)) - (1 : Int32)) - (x9 + x7))] (hp I J (pm_RT pa pb ga)) Q))))) : Px (k + 2) 176 m_Fo_foldOver 121 [.ref 29, .int x1, .int x2, .int x3, .int x4, .int x5, .int x6, .int x7, .int x8, .int x9, .null, .null, .null, .null] [] (hp I J (pm_RT pa pb ga)) Q := by
  refine x_l 123 rfl rfl rfl ?_
  refine x_l 125 rfl rfl rfl ?_
  refine x_b 128 rfl rfl rfl (fun c => ?_) (fun c => ?_)
  · have h := h.1 c
    refine x_t 223 rfl rfl rfl ?_
    refine x_g rfl ?_
    exact h
  · have h := h.2 c
    refine x_l 130 rfl rfl rfl ?_
    refine x_l 132 rfl rfl rfl ?_
    refine x_s 133 rfl rfl rfl ?_
    refine x_t 135 rfl rfl rfl ?_
    refine x_l 137 rfl rfl rfl ?_
    refine x_l 139 rfl rfl rfl ?_
    refine x_s 140 rfl rfl rfl ?_
    refine x_t 142 rfl rfl rfl ?_
    refine x_l 144 rfl rfl rfl ?_
    refine x_l 145 rfl rfl rfl ?_
    refine z_gf 148 (.int (I 29 9)) rfl ⟨rfl, rfl, rfl⟩ rfl rfl ?_
    refine x_s 149 rfl rfl rfl ?_
    refine x_l 151 rfl rfl rfl ?_
    refine x_s 152 rfl rfl rfl ?_
    refine x_t 154 rfl rfl rfl ?_
    refine x_l 155 rfl rfl rfl ?_
    refine x_b 158 rfl rfl rfl (fun c => ?_) (fun c => ?_)
    · have h := h.1 c
      refine x_l 179 rfl rfl rfl ?_
      refine z_gf 182 (.int (I 29 8)) rfl ⟨rfl, rfl, rfl⟩ rfl rfl ?_
      refine z_k 183 1 rfl (by decide) rfl ?_
      refine x_s 184 rfl rfl rfl ?_
      refine x_l 186 rfl rfl rfl ?_
      refine x_s 187 rfl rfl rfl ?_
      refine x_l 188 rfl rfl rfl ?_
      refine z_gf 191 (.int (I 29 9)) rfl ⟨rfl, rfl, rfl⟩ rfl rfl ?_
      refine x_s 192 rfl rfl rfl ?_
      refine x_l 194 rfl rfl rfl ?_
      refine x_s 195 rfl rfl rfl ?_
      exact h
    · have h := h.2 c
      refine x_l 160 rfl rfl rfl ?_
      refine x_l 161 rfl rfl rfl ?_
      refine z_gf 164 (.int (I 29 9)) rfl ⟨rfl, rfl, rfl⟩ rfl rfl ?_
      refine x_s 165 rfl rfl rfl ?_
      refine x_l 166 rfl rfl rfl ?_
      refine z_gf 169 (.int (I 29 9)) rfl ⟨rfl, rfl, rfl⟩ rfl rfl ?_
      refine x_s 170 rfl rfl rfl ?_
      refine z_k 171 1 rfl (by decide) rfl ?_
      refine x_s 172 rfl rfl rfl ?_
      refine x_l 174 rfl rfl rfl ?_
      refine x_s 175 rfl rfl rfl ?_
      refine x_g rfl ?_
      exact h

theorem bk_Fo_foldOver_195 {k : Nat} {pa pb : Nat} {ga : Nat → Nat} {I : pm_II} {J : pm_JJ} {Q : Option Value → pm_H → Prop} {x1 : Int32} {x2 : Int32} {x3 : Int32} {x4 : Int32} {x5 : Int32} {x6 : Int32} {x7 : Int32} {x8 : Int32} {x9 : Int32} {x10 : Int32} {x11 : Int32} {x12 : Int32} {s0 : Int32} (h : Px (k + 1) 176 m_Fo_layOver 0 [.ref 29, .int s0, .int x12, .int ((x8 * x5) + x9), .int x2, .null, .null, .null] [] (hp I J (pm_RT pa pb ga)) (fun r h' => h'.1 = 176 ∧ Px (k + 2) 176 m_Fo_foldOver 214 [.ref 29, .int x1, .int x2, .int x3, .int x4, .int x5, .int x6, .int x7, .int x8, .int x9, .int x10, .int x11, .int x12, .int s0] (r.toList ++ []) h' Q)) : Px (k + 2) 176 m_Fo_foldOver 195 [.ref 29, .int x1, .int x2, .int x3, .int x4, .int x5, .int x6, .int x7, .int x8, .int x9, .int x10, .int x11, .int x12, .null] [.int s0] (hp I J (pm_RT pa pb ga)) Q := by
  refine x_t 197 rfl rfl rfl ?_
  refine x_l 198 rfl rfl rfl ?_
  refine x_l 200 rfl rfl rfl ?_
  refine x_l 202 rfl rfl rfl ?_
  refine x_l 204 rfl rfl rfl ?_
  refine x_l 206 rfl rfl rfl ?_
  refine x_s 207 rfl rfl rfl ?_
  refine x_l 209 rfl rfl rfl ?_
  refine x_s 210 rfl rfl rfl ?_
  refine x_l 211 rfl rfl rfl ?_
  exact z_cv (As := [.int s0, .int x12, .int ((x8 * x5) + x9), .int x2]) (rest := []) (b := 29) rfl at_Fo_layOver rfl rfl (Nat.le_of_ble_eq_true rfl) (Nat.le_of_ble_eq_true rfl) ⟨rfl, rfl, rfl⟩ (by decide) rfl h

theorem bk_Fo_foldOver_214 {k : Nat} {pa pb : Nat} {ga : Nat → Nat} {I : pm_II} {J : pm_JJ} {Q : Option Value → pm_H → Prop} {x1 : Int32} {x2 : Int32} {x3 : Int32} {x4 : Int32} {x5 : Int32} {x6 : Int32} {x7 : Int32} {x8 : Int32} {x9 : Int32} {x10 : Int32} {x11 : Int32} {x12 : Int32} {x13 : Int32} (h : Px (k + 2) 176 m_Fo_foldOver 121 [.ref 29, .int x1, .int x2, .int x3, .int x4, .int x5, .int x6, .int x7, .int x8, .int (x9 + Int32.ofInt 1), .int x10, .int x11, .int x12, .int x13] [] (hp I J (pm_RT pa pb ga)) Q) : Px (k + 2) 176 m_Fo_foldOver 214 [.ref 29, .int x1, .int x2, .int x3, .int x4, .int x5, .int x6, .int x7, .int x8, .int x9, .int x10, .int x11, .int x12, .int x13] [] (hp I J (pm_RT pa pb ga)) Q := by
  refine x_t 217 rfl rfl rfl ?_
  refine x_g rfl ?_
  exact h

theorem bk_Fo_foldOver_15 {k : Nat} {pa pb : Nat} {ga : Nat → Nat} {I : pm_II} {J : pm_JJ} {Q : Option Value → pm_H → Prop} {x1 : Int32} (h : Px (k + 1) 176 m_Fo_isAcross 0 [.int x1] [] (hp I J (pm_RT pa pb ga)) (fun r h' => h'.1 = 176 ∧ Px (k + 2) 176 m_Fo_foldOver 19 [.ref 29, .int x1, .null, .null, .null, .null, .null, .null, .null, .null, .null, .null, .null, .null] (r.toList ++ []) h' Q)) : Px (k + 2) 176 m_Fo_foldOver 15 [.ref 29, .int x1, .null, .null, .null, .null, .null, .null, .null, .null, .null, .null, .null, .null] [] (hp I J (pm_RT pa pb ga)) Q := by
  refine x_l 16 rfl rfl rfl ?_
  exact z_cs (As := [.int x1]) (rest := []) rfl at_Fo_isAcross rfl rfl (Nat.le_of_ble_eq_true rfl) (Nat.le_of_ble_eq_true rfl) rfl h

theorem bk_Fo_isAcross_0 {k : Nat} {pa pb : Nat} {ga : Nat → Nat} {I : pm_II} {J : pm_JJ} {Q : Option Value → pm_H → Prop} {x0 : Int32} (h : ((x0 = 108 → Q (some (.int 1)) (hp I J (pm_RT pa pb ga))) ∧ (¬ (x0 = 108) → ((¬ x0 = 114 → Q (some (.int 0)) (hp I J (pm_RT pa pb ga))) ∧ (¬ (¬ x0 = 114) → Q (some (.int 1)) (hp I J (pm_RT pa pb ga))))))) : Px k 176 m_Fo_isAcross 0 [.int x0] [] (hp I J (pm_RT pa pb ga)) Q := by
  refine x_l 1 rfl rfl rfl ?_
  refine z_k 3 108 rfl (by decide) rfl ?_
  refine x_b 6 rfl rfl rfl (fun c => ?_) (fun c => ?_)
  · have h := h.1 c
    refine z_k 13 1 rfl (by decide) rfl ?_
    refine x_g rfl ?_
    exact x_ri rfl (Or.inr ⟨rfl, Or.inr rfl⟩) h
  · have h := h.2 c
    refine x_l 7 rfl rfl rfl ?_
    refine z_k 9 114 rfl (by decide) rfl ?_
    refine x_b 12 rfl rfl rfl (fun c => ?_) (fun c => ?_)
    · have h := h.1 c
      refine z_k 17 0 rfl (by decide) rfl ?_
      exact x_ri rfl (Or.inr ⟨rfl, Or.inl rfl⟩) h
    · have h := h.2 c
      refine z_k 13 1 rfl (by decide) rfl ?_
      refine x_g rfl ?_
      exact x_ri rfl (Or.inr ⟨rfl, Or.inr rfl⟩) h

theorem bk_Fo_layOver_0 {k : Nat} {pa pb : Nat} {ga : Nat → Nat} {I : pm_II} {J : pm_JJ} {Q : Option Value → pm_H → Prop} {x1 : Int32} {x2 : Int32} {x3 : Int32} {x4 : Int32} (h : Px k 176 m_Fo_layOver 13 [.ref 29, .int x1, .int x2, .int x3, .int x4, .int ((x3 * (2 : Int32)) * (I 29 10)), .int 0, .null] [] (hp I J (pm_RT pa pb ga)) Q) : Px k 176 m_Fo_layOver 0 [.ref 29, .int x1, .int x2, .int x3, .int x4, .null, .null, .null] [] (hp I J (pm_RT pa pb ga)) Q := by
  refine x_l 1 rfl rfl rfl ?_
  refine z_k 2 2 rfl (by decide) rfl ?_
  refine x_s 3 rfl rfl rfl ?_
  refine x_l 4 rfl rfl rfl ?_
  refine z_gf 7 (.int (I 29 10)) rfl ⟨rfl, rfl, rfl⟩ rfl rfl ?_
  refine x_s 8 rfl rfl rfl ?_
  refine x_t 10 rfl rfl rfl ?_
  refine z_k 11 0 rfl (by decide) rfl ?_
  refine x_t 13 rfl rfl rfl ?_
  exact h

theorem bk_Fo_layOver_13 {k : Nat} {pa pb : Nat} {ga : Nat → Nat} {I : pm_II} {J : pm_JJ} {Q : Option Value → pm_H → Prop} {x1 : Int32} {x2 : Int32} {x3 : Int32} {x4 : Int32} {x5 : Int32} {x6 : Int32} (h : (((I 29 10) ≤ x6 → Px k 176 m_Fo_layOver 134 [.ref 29, .int x1, .int x2, .int x3, .int x4, .int x5, .int x6, .null] [] (hp I J (pm_RT pa pb ga)) Q) ∧ (¬ ((I 29 10) ≤ x6) → ((64 ≤ ((x5 + (I 29 10)) + x6) → Px k 176 m_Fo_layOver 134 [.ref 29, .int x1, .int x2, .int x3, .int x4, .int x5, .int x6, .null] [] (hp I J (pm_RT pa pb ga)) Q) ∧ (¬ (64 ≤ ((x5 + (I 29 10)) + x6)) → vp_in ((((x1 * (I 29 10)) + (I 29 10)) - (1 : Int32)) - x6) 64 ∧ vp_in (I 32 ((((((x1 * (I 29 10)) + (I 29 10)) - (1 : Int32)) - x6) : Int32).toNatClampNeg)) 64 ∧ vp_in (I 32 ((((((x1 * (I 29 10)) + (I 29 10)) - (1 : Int32)) - x6) : Int32).toNatClampNeg)) 64 ∧ ((¬ x4 = 0 → Px k 176 m_Fo_layOver 87 [.ref 29, .int x1, .int x2, .int x3, .int x4, .int x5, .int x6, .int (I 32 ((((((x1 * (I 29 10)) + (I 29 10)) - (1 : Int32)) - x6) : Int32).toNatClampNeg))] [] (hp (pm_up I 34 (((I 32 ((((((x1 * (I 29 10)) + (I 29 10)) - (1 : Int32)) - x6) : Int32).toNatClampNeg)) : Int32).toNatClampNeg) ((I 34 (((I 32 ((((((x1 * (I 29 10)) + (I 29 10)) - (1 : Int32)) - x6) : Int32).toNatClampNeg)) : Int32).toNatClampNeg)) ^^^ (1 : Int32))) J (pm_RT pa pb ga)) Q) ∧ (¬ (¬ x4 = 0) → vp_in (I 32 ((((((x1 * (I 29 10)) + (I 29 10)) - (1 : Int32)) - x6) : Int32).toNatClampNeg)) 64 ∧ vp_in (I 32 ((((((x1 * (I 29 10)) + (I 29 10)) - (1 : Int32)) - x6) : Int32).toNatClampNeg)) 64 ∧ Px k 176 m_Fo_layOver 87 [.ref 29, .int x1, .int x2, .int x3, .int x4, .int x5, .int x6, .int (I 32 ((((((x1 * (I 29 10)) + (I 29 10)) - (1 : Int32)) - x6) : Int32).toNatClampNeg))] [] (hp (pm_up (pm_up I 34 (((I 32 ((((((x1 * (I 29 10)) + (I 29 10)) - (1 : Int32)) - x6) : Int32).toNatClampNeg)) : Int32).toNatClampNeg) ((I 34 (((I 32 ((((((x1 * (I 29 10)) + (I 29 10)) - (1 : Int32)) - x6) : Int32).toNatClampNeg)) : Int32).toNatClampNeg)) ^^^ (1 : Int32))) 35 (((I 32 ((((((x1 * (I 29 10)) + (I 29 10)) - (1 : Int32)) - x6) : Int32).toNatClampNeg)) : Int32).toNatClampNeg) ((I 35 (((I 32 ((((((x1 * (I 29 10)) + (I 29 10)) - (1 : Int32)) - x6) : Int32).toNatClampNeg)) : Int32).toNatClampNeg)) ^^^ (1 : Int32))) J (pm_RT pa pb ga)) Q))))))) : Px k 176 m_Fo_layOver 13 [.ref 29, .int x1, .int x2, .int x3, .int x4, .int x5, .int x6, .null] [] (hp I J (pm_RT pa pb ga)) Q := by
  refine x_l 15 rfl rfl rfl ?_
  refine x_l 16 rfl rfl rfl ?_
  refine z_gf 19 (.int (I 29 10)) rfl ⟨rfl, rfl, rfl⟩ rfl rfl ?_
  refine x_b 22 rfl rfl rfl (fun c => ?_) (fun c => ?_)
  · have h := h.1 c
    exact h
  · have h := h.2 c
    refine x_l 24 rfl rfl rfl ?_
    refine x_l 25 rfl rfl rfl ?_
    refine z_gf 28 (.int (I 29 10)) rfl ⟨rfl, rfl, rfl⟩ rfl rfl ?_
    refine x_s 29 rfl rfl rfl ?_
    refine x_l 31 rfl rfl rfl ?_
    refine x_s 32 rfl rfl rfl ?_
    refine z_k 34 64 rfl (by decide) rfl ?_
    refine x_b 37 rfl rfl rfl (fun c => ?_) (fun c => ?_)
    · have h := h.1 c
      exact h
    · have h := h.2 c
      refine x_l 38 rfl rfl rfl ?_
      refine z_gf 41 (.ref 32) rfl ⟨rfl, rfl, rfl⟩ rfl rfl ?_
      refine x_l 42 rfl rfl rfl ?_
      refine x_l 43 rfl rfl rfl ?_
      refine z_gf 46 (.int (I 29 10)) rfl ⟨rfl, rfl, rfl⟩ rfl rfl ?_
      refine x_s 47 rfl rfl rfl ?_
      refine x_l 48 rfl rfl rfl ?_
      refine z_gf 51 (.int (I 29 10)) rfl ⟨rfl, rfl, rfl⟩ rfl rfl ?_
      refine x_s 52 rfl rfl rfl ?_
      refine z_k 53 1 rfl (by decide) rfl ?_
      refine x_s 54 rfl rfl rfl ?_
      refine x_l 56 rfl rfl rfl ?_
      refine x_s 57 rfl rfl rfl ?_
      have h1 := h.1
      have h := h.2
      refine z_il 58 64 rfl ⟨rfl, rfl, rfl⟩ rfl h1 rfl ?_
      refine x_t 60 rfl rfl rfl ?_
      refine x_l 61 rfl rfl rfl ?_
      refine z_gf 64 (.ref 34) rfl ⟨rfl, rfl, rfl⟩ rfl rfl ?_
      refine x_l 66 rfl rfl rfl ?_
      refine x_s 67 rfl rfl rfl ?_
      have h1 := h.1
      have h := h.2
      refine z_il 68 64 rfl ⟨rfl, rfl, rfl⟩ rfl h1 rfl ?_
      refine z_k 69 1 rfl (by decide) rfl ?_
      refine x_s 70 rfl rfl rfl ?_
      have h1 := h.1
      have h := h.2
      refine z_is 71 64 rfl ⟨rfl, rfl, rfl⟩ rfl h1 rfl ?_
      refine x_l 73 rfl rfl rfl ?_
      refine x_b 76 rfl rfl rfl (fun c => ?_) (fun c => ?_)
      · have h := h.1 c
        exact h
      · have h := h.2 c
        refine x_l 77 rfl rfl rfl ?_
        refine z_gf 80 (.ref 35) rfl ⟨rfl, rfl, rfl⟩ rfl rfl ?_
        refine x_l 82 rfl rfl rfl ?_
        refine x_s 83 rfl rfl rfl ?_
        have h1 := h.1
        have h := h.2
        refine z_il 84 64 rfl ⟨rfl, rfl, rfl⟩ rfl h1 rfl ?_
        refine z_k 85 1 rfl (by decide) rfl ?_
        refine x_s 86 rfl rfl rfl ?_
        have h1 := h.1
        have h := h.2
        refine z_is 87 64 rfl ⟨rfl, rfl, rfl⟩ rfl h1 rfl ?_
        exact h

theorem bk_Fo_layOver_87 {k : Nat} {pa pb : Nat} {ga : Nat → Nat} {I : pm_II} {J : pm_JJ} {Q : Option Value → pm_H → Prop} {x1 : Int32} {x2 : Int32} {x3 : Int32} {x4 : Int32} {x5 : Int32} {x6 : Int32} {x7 : Int32} (h : vp_in (x5 + x6) 64 ∧ vp_in ((x2 * (I 29 10)) + x6) 64 ∧ vp_in ((x5 + (I 29 10)) + x6) 64 ∧ Px k 176 m_Fo_layOver 13 [.ref 29, .int x1, .int x2, .int x3, .int x4, .int x5, .int (x6 + Int32.ofInt 1), .int x7] [] (hp (pm_up (pm_up I 31 (((x5 + x6) : Int32).toNatClampNeg) x7) 31 ((((x5 + (I 29 10)) + x6) : Int32).toNatClampNeg) (I 32 ((((x2 * (I 29 10)) + x6) : Int32).toNatClampNeg))) J (pm_RT pa pb ga)) Q) : Px k 176 m_Fo_layOver 87 [.ref 29, .int x1, .int x2, .int x3, .int x4, .int x5, .int x6, .int x7] [] (hp I J (pm_RT pa pb ga)) Q := by
  refine x_l 88 rfl rfl rfl ?_
  refine z_gf 91 (.ref 31) rfl ⟨rfl, rfl, rfl⟩ rfl rfl ?_
  refine x_l 93 rfl rfl rfl ?_
  refine x_l 95 rfl rfl rfl ?_
  refine x_s 96 rfl rfl rfl ?_
  refine x_l 98 rfl rfl rfl ?_
  have h1 := h.1
  have h := h.2
  refine z_is 99 64 rfl ⟨rfl, rfl, rfl⟩ rfl h1 rfl ?_
  refine x_l 100 rfl rfl rfl ?_
  refine z_gf 103 (.ref 31) rfl ⟨rfl, rfl, rfl⟩ rfl rfl ?_
  refine x_l 105 rfl rfl rfl ?_
  refine x_l 106 rfl rfl rfl ?_
  refine z_gf 109 (.int (I 29 10)) rfl ⟨rfl, rfl, rfl⟩ rfl rfl ?_
  refine x_s 110 rfl rfl rfl ?_
  refine x_l 112 rfl rfl rfl ?_
  refine x_s 113 rfl rfl rfl ?_
  refine x_l 114 rfl rfl rfl ?_
  refine z_gf 117 (.ref 32) rfl ⟨rfl, rfl, rfl⟩ rfl rfl ?_
  refine x_l 118 rfl rfl rfl ?_
  refine x_l 119 rfl rfl rfl ?_
  refine z_gf 122 (.int (I 29 10)) rfl ⟨rfl, rfl, rfl⟩ rfl rfl ?_
  refine x_s 123 rfl rfl rfl ?_
  refine x_l 125 rfl rfl rfl ?_
  refine x_s 126 rfl rfl rfl ?_
  have h1 := h.1
  have h := h.2
  refine z_il 127 64 rfl ⟨rfl, rfl, rfl⟩ rfl h1 rfl ?_
  have h1 := h.1
  have h := h.2
  refine z_is 128 64 rfl ⟨rfl, rfl, rfl⟩ rfl h1 rfl ?_
  refine x_t 131 rfl rfl rfl ?_
  refine x_g rfl ?_
  exact h

theorem bk_Fo_layOver_134 {k : Nat} {pa pb : Nat} {ga : Nat → Nat} {I : pm_II} {J : pm_JJ} {Q : Option Value → pm_H → Prop} {x1 : Int32} {x2 : Int32} {x3 : Int32} {x4 : Int32} {x5 : Int32} {x6 : Int32} (h : Q none (hp I J (pm_RT pa pb ga))) : Px k 176 m_Fo_layOver 134 [.ref 29, .int x1, .int x2, .int x3, .int x4, .int x5, .int x6, .null] [] (hp I J (pm_RT pa pb ga)) Q := by
  exact x_rv rfl rfl h

theorem bk_Fo_leaves_0 {k : Nat} {pa pb : Nat} {ga : Nat → Nat} {I : pm_II} {J : pm_JJ} {Q : Option Value → pm_H → Prop} (h : Q (some (.int ((I 29 6) * (I 29 7)))) (hp I J (pm_RT pa pb ga))) : Px k 176 m_Fo_leaves 0 [.ref 29] [] (hp I J (pm_RT pa pb ga)) Q := by
  refine x_l 1 rfl rfl rfl ?_
  refine z_gf 4 (.int (I 29 6)) rfl ⟨rfl, rfl, rfl⟩ rfl rfl ?_
  refine x_l 5 rfl rfl rfl ?_
  refine z_gf 8 (.int (I 29 7)) rfl ⟨rfl, rfl, rfl⟩ rfl rfl ?_
  refine x_s 9 rfl rfl rfl ?_
  exact x_ri rfl (Or.inl rfl) h

theorem bk_Ro_takeText_0 {k : Nat} {pa pb : Nat} {ga : Nat → Nat} {I : pm_II} {J : pm_JJ} {Q : Option Value → pm_H → Prop} (h : Px k 176 m_Ta_readKeyword 0 [.ref 17, .ref 3] [] (hp I J (pm_RT pa pb ga)) (fun r h' => h'.1 = 176 ∧ Px (k + 1) 176 m_Ro_takeText 6 [.ref 19, .ref 17, .null, .null, .null, .null] (r.toList ++ []) h' Q)) : Px (k + 1) 176 m_Ro_takeText 0 [.ref 19, .ref 17, .null, .null, .null, .null] [] (hp I J (pm_RT pa pb ga)) Q := by
  refine x_l 1 rfl rfl rfl ?_
  refine x_ls 3 rfl (Or.inl rfl) rfl ?_
  exact z_cv (As := [.ref 3]) (rest := []) (b := 17) rfl at_Ta_readKeyword rfl rfl (Nat.le_of_ble_eq_true rfl) (Nat.le_of_ble_eq_true rfl) ⟨rfl, rfl, rfl⟩ (by decide) rfl h

theorem bk_Ro_takeText_6 {k : Nat} {pa pb : Nat} {ga : Nat → Nat} {I : pm_II} {J : pm_JJ} {Q : Option Value → pm_H → Prop} (h : Px k 176 m_Ta_readNextNumber 0 [.ref 17, .int 50, .int 400] [] (hp I J (pm_RT pa pb ga)) (fun r h' => h'.1 = 176 ∧ Px (k + 1) 176 m_Ro_takeText 15 [.ref 19, .ref 17, .null, .null, .null, .null] (r.toList ++ []) h' Q)) : Px (k + 1) 176 m_Ro_takeText 6 [.ref 19, .ref 17, .null, .null, .null, .null] [] (hp I J (pm_RT pa pb ga)) Q := by
  refine x_l 7 rfl rfl rfl ?_
  refine z_k 9 50 rfl (by decide) rfl ?_
  refine z_k 12 400 rfl (by decide) rfl ?_
  exact z_cv (As := [.int 50, .int 400]) (rest := []) (b := 17) rfl at_Ta_readNextNumber rfl rfl (Nat.le_of_ble_eq_true rfl) (Nat.le_of_ble_eq_true rfl) ⟨rfl, rfl, rfl⟩ (by decide) rfl h

theorem bk_Ro_takeText_15 {k : Nat} {pa pb : Nat} {ga : Nat → Nat} {I : pm_II} {J : pm_JJ} {Q : Option Value → pm_H → Prop} {s0 : Int32} (h : Px k 176 m_Ta_readNextNumber 0 [.ref 17, .int 1, .int 6] [] (hp I J (pm_RT pa pb ga)) (fun r h' => h'.1 = 176 ∧ Px (k + 1) 176 m_Ro_takeText 23 [.ref 19, .ref 17, .int s0, .null, .null, .null] (r.toList ++ []) h' Q)) : Px (k + 1) 176 m_Ro_takeText 15 [.ref 19, .ref 17, .null, .null, .null, .null] [.int s0] (hp I J (pm_RT pa pb ga)) Q := by
  refine x_t 16 rfl rfl rfl ?_
  refine x_l 17 rfl rfl rfl ?_
  refine z_k 18 1 rfl (by decide) rfl ?_
  refine z_k 20 6 rfl (by decide) rfl ?_
  exact z_cv (As := [.int 1, .int 6]) (rest := []) (b := 17) rfl at_Ta_readNextNumber rfl rfl (Nat.le_of_ble_eq_true rfl) (Nat.le_of_ble_eq_true rfl) ⟨rfl, rfl, rfl⟩ (by decide) rfl h

theorem bk_Ro_takeText_23 {k : Nat} {pa pb : Nat} {ga : Nat → Nat} {I : pm_II} {J : pm_JJ} {Q : Option Value → pm_H → Prop} {x2 : Int32} {s0 : Int32} (h : Px k 176 m_Ta_expect 0 [.ref 17, .int 10] [] (hp I J (pm_RT pa pb ga)) (fun r h' => h'.1 = 176 ∧ Px (k + 1) 176 m_Ro_takeText 30 [.ref 19, .ref 17, .int x2, .int s0, .null, .null] (r.toList ++ []) h' Q)) : Px (k + 1) 176 m_Ro_takeText 23 [.ref 19, .ref 17, .int x2, .null, .null, .null] [.int s0] (hp I J (pm_RT pa pb ga)) Q := by
  refine x_t 24 rfl rfl rfl ?_
  refine x_l 25 rfl rfl rfl ?_
  refine z_k 27 10 rfl (by decide) rfl ?_
  exact z_cv (As := [.int 10]) (rest := []) (b := 17) rfl at_Ta_expect rfl rfl (Nat.le_of_ble_eq_true rfl) (Nat.le_of_ble_eq_true rfl) ⟨rfl, rfl, rfl⟩ (by decide) rfl h

theorem bk_Ro_takeText_30 {k : Nat} {pa pb : Nat} {ga : Nat → Nat} {I : pm_II} {J : pm_JJ} {Q : Option Value → pm_H → Prop} {x2 : Int32} {x3 : Int32} (h : Px (k + 1) 176 m_Ro_takeText 37 [.ref 19, .ref 17, .int x2, .int x3, .int 0, .int 16] [] (hp I J (pm_RT pa pb ga)) Q) : Px (k + 1) 176 m_Ro_takeText 30 [.ref 19, .ref 17, .int x2, .int x3, .null, .null] [] (hp I J (pm_RT pa pb ga)) Q := by
  refine z_k 31 0 rfl (by decide) rfl ?_
  refine x_t 33 rfl rfl rfl ?_
  refine z_k 35 16 rfl (by decide) rfl ?_
  refine x_t 37 rfl rfl rfl ?_
  exact h

theorem bk_Ro_takeText_37 {k : Nat} {pa pb : Nat} {ga : Nat → Nat} {I : pm_II} {J : pm_JJ} {Q : Option Value → pm_H → Prop} {x2 : Int32} {x3 : Int32} {x4 : Int32} {x5 : Int32} (h : Px k 176 m_Ro_readLine 0 [.ref 19, .ref 17, .int x4, .int x2, .int x5, .null] [] (hp I J (pm_RT pa pb ga)) (fun r h' => h'.1 = 176 ∧ Px (k + 1) 176 m_Ro_takeText 47 [.ref 19, .ref 17, .int x2, .int x3, .int x4, .int x5] (r.toList ++ []) h' Q)) : Px (k + 1) 176 m_Ro_takeText 37 [.ref 19, .ref 17, .int x2, .int x3, .int x4, .int x5] [] (hp I J (pm_RT pa pb ga)) Q := by
  refine x_l 38 rfl rfl rfl ?_
  refine x_l 39 rfl rfl rfl ?_
  refine x_l 41 rfl rfl rfl ?_
  refine x_l 42 rfl rfl rfl ?_
  refine x_l 44 rfl rfl rfl ?_
  exact z_cv (As := [.ref 17, .int x4, .int x2, .int x5]) (rest := []) (b := 19) rfl at_Ro_readLine rfl rfl (Nat.le_of_ble_eq_true rfl) (Nat.le_of_ble_eq_true rfl) ⟨rfl, rfl, rfl⟩ (by decide) rfl h

theorem bk_Ro_takeText_47 {k : Nat} {pa pb : Nat} {ga : Nat → Nat} {I : pm_II} {J : pm_JJ} {Q : Option Value → pm_H → Prop} {x2 : Int32} {x3 : Int32} {x4 : Int32} {x5 : Int32} (h : vp_in x4 4 ∧ ((4 ≤ (x4 + Int32.ofInt 1) → Px (k + 1) 176 m_Ro_takeText 75 [.ref 19, .ref 17, .int x2, .int x3, .int (x4 + Int32.ofInt 1), .int (x5 - (I 23 ((x4 : Int32).toNatClampNeg)))] [] (hp I J (pm_RT pa pb ga)) Q) ∧ (¬ (4 ≤ (x4 + Int32.ofInt 1)) → Px k 176 m_Ta_hasMore 0 [.ref 17] [] (hp I J (pm_RT pa pb ga)) (fun r h' => h'.1 = 176 ∧ Px (k + 1) 176 m_Ro_takeText 72 [.ref 19, .ref 17, .int x2, .int x3, .int (x4 + Int32.ofInt 1), .int (x5 - (I 23 ((x4 : Int32).toNatClampNeg)))] (r.toList ++ []) h' Q)))) : Px (k + 1) 176 m_Ro_takeText 47 [.ref 19, .ref 17, .int x2, .int x3, .int x4, .int x5] [] (hp I J (pm_RT pa pb ga)) Q := by
  refine x_l 49 rfl rfl rfl ?_
  refine x_l 50 rfl rfl rfl ?_
  refine z_gf 53 (.ref 23) rfl ⟨rfl, rfl, rfl⟩ rfl rfl ?_
  refine x_l 55 rfl rfl rfl ?_
  have h1 := h.1
  have h := h.2
  refine z_il 56 4 rfl ⟨rfl, rfl, rfl⟩ rfl h1 rfl ?_
  refine x_s 57 rfl rfl rfl ?_
  refine x_t 59 rfl rfl rfl ?_
  refine x_t 62 rfl rfl rfl ?_
  refine x_l 64 rfl rfl rfl ?_
  refine z_k 65 4 rfl (by decide) rfl ?_
  refine x_b 68 rfl rfl rfl (fun c => ?_) (fun c => ?_)
  · have h := h.1 c
    exact h
  · have h := h.2 c
    refine x_l 69 rfl rfl rfl ?_
    exact z_cv (As := []) (rest := []) (b := 17) rfl at_Ta_hasMore rfl rfl (Nat.le_of_ble_eq_true rfl) (Nat.le_of_ble_eq_true rfl) ⟨rfl, rfl, rfl⟩ (by decide) rfl h

theorem bk_Ro_takeText_72 {k : Nat} {pa pb : Nat} {ga : Nat → Nat} {I : pm_II} {J : pm_JJ} {Q : Option Value → pm_H → Prop} {x2 : Int32} {x3 : Int32} {x4 : Int32} {x5 : Int32} {s0 : Int32} (h : ((¬ s0 = 0 → Px (k + 1) 176 m_Ro_takeText 37 [.ref 19, .ref 17, .int x2, .int x3, .int x4, .int x5] [] (hp I J (pm_RT pa pb ga)) Q) ∧ (¬ (¬ s0 = 0) → Px (k + 1) 176 m_Ro_takeText 75 [.ref 19, .ref 17, .int x2, .int x3, .int x4, .int x5] [] (hp I J (pm_RT pa pb ga)) Q))) : Px (k + 1) 176 m_Ro_takeText 72 [.ref 19, .ref 17, .int x2, .int x3, .int x4, .int x5] [.int s0] (hp I J (pm_RT pa pb ga)) Q := by
  refine x_b 75 rfl rfl rfl (fun c => ?_) (fun c => ?_)
  · have h := h.1 c
    exact h
  · have h := h.2 c
    exact h

theorem bk_Ro_takeText_75 {k : Nat} {pa pb : Nat} {ga : Nat → Nat} {I : pm_II} {J : pm_JJ} {Q : Option Value → pm_H → Prop} {x2 : Int32} {x3 : Int32} {x4 : Int32} {x5 : Int32} (h : Px k 176 m_Ta_finish 0 [.ref 17] [] (hp I J (pm_RT pa pb ga)) (fun r h' => h'.1 = 176 ∧ Px (k + 1) 176 m_Ro_takeText 79 [.ref 19, .ref 17, .int x2, .int x3, .int x4, .int x5] (r.toList ++ []) h' Q)) : Px (k + 1) 176 m_Ro_takeText 75 [.ref 19, .ref 17, .int x2, .int x3, .int x4, .int x5] [] (hp I J (pm_RT pa pb ga)) Q := by
  refine x_l 76 rfl rfl rfl ?_
  exact z_cv (As := []) (rest := []) (b := 17) rfl at_Ta_finish rfl rfl (Nat.le_of_ble_eq_true rfl) (Nat.le_of_ble_eq_true rfl) ⟨rfl, rfl, rfl⟩ (by decide) rfl h

theorem bk_Ro_takeText_79 {k : Nat} {pa pb : Nat} {ga : Nat → Nat} {I : pm_II} {J : pm_JJ} {Q : Option Value → pm_H → Prop} {x2 : Int32} {x3 : Int32} {x4 : Int32} {x5 : Int32} (h : Px k 176 m_Ta_isRight 0 [.ref 17] [] (hp I J (pm_RT pa pb ga)) (fun r h' => h'.1 = 176 ∧ Px (k + 1) 176 m_Ro_takeText 83 [.ref 19, .ref 17, .int x2, .int x3, .int x4, .int x5] (r.toList ++ []) h' Q)) : Px (k + 1) 176 m_Ro_takeText 79 [.ref 19, .ref 17, .int x2, .int x3, .int x4, .int x5] [] (hp I J (pm_RT pa pb ga)) Q := by
  refine x_l 80 rfl rfl rfl ?_
  exact z_cv (As := []) (rest := []) (b := 17) rfl at_Ta_isRight rfl rfl (Nat.le_of_ble_eq_true rfl) (Nat.le_of_ble_eq_true rfl) ⟨rfl, rfl, rfl⟩ (by decide) rfl h

theorem bk_Ro_takeText_83 {k : Nat} {pa pb : Nat} {ga : Nat → Nat} {I : pm_II} {J : pm_JJ} {Q : Option Value → pm_H → Prop} {x2 : Int32} {x3 : Int32} {x4 : Int32} {x5 : Int32} {s0 : Int32} (h : ((¬ s0 = 0 → Px k 176 m_Ro_adopt 0 [.ref 19, .null, .null] [] (hp (pm_up (pm_up (pm_up I 19 9 x2) 19 10 x3) 19 11 x4) J (pm_RT pa pb ga)) (fun r h' => h'.1 = 176 ∧ Px (k + 1) 176 m_Ro_takeText 108 [.ref 19, .ref 17, .int x2, .int x3, .int x4, .int x5] (r.toList ++ []) h' Q)) ∧ (¬ (¬ s0 = 0) → Q (some (.int (-1))) (hp I J (pm_RT pa pb ga))))) : Px (k + 1) 176 m_Ro_takeText 83 [.ref 19, .ref 17, .int x2, .int x3, .int x4, .int x5] [.int s0] (hp I J (pm_RT pa pb ga)) Q := by
  refine x_b 86 rfl rfl rfl (fun c => ?_) (fun c => ?_)
  · have h := h.1 c
    refine x_l 89 rfl rfl rfl ?_
    refine x_l 90 rfl rfl rfl ?_
    refine z_pi 93 rfl (Or.inl rfl) rfl (fun z => by cases z) ⟨rfl, rfl, rfl⟩ rfl ?_
    refine x_l 94 rfl rfl rfl ?_
    refine x_l 95 rfl rfl rfl ?_
    refine z_pi 98 rfl (Or.inl rfl) rfl (fun z => by cases z) ⟨rfl, rfl, rfl⟩ rfl ?_
    refine x_l 99 rfl rfl rfl ?_
    refine x_l 101 rfl rfl rfl ?_
    refine z_pi 104 rfl (Or.inl rfl) rfl (fun z => by cases z) ⟨rfl, rfl, rfl⟩ rfl ?_
    refine x_l 105 rfl rfl rfl ?_
    exact z_cv (As := []) (rest := []) (b := 19) rfl at_Ro_adopt rfl rfl (Nat.le_of_ble_eq_true rfl) (Nat.le_of_ble_eq_true rfl) ⟨rfl, rfl, rfl⟩ (by decide) rfl h
  · have h := h.2 c
    refine z_k 87 (-1) rfl (by decide) rfl ?_
    exact x_ri rfl (Or.inl rfl) h

theorem bk_Ro_takeText_108 {k : Nat} {pa pb : Nat} {ga : Nat → Nat} {I : pm_II} {J : pm_JJ} {Q : Option Value → pm_H → Prop} {x2 : Int32} {x3 : Int32} {x4 : Int32} {x5 : Int32} (h : Px k 176 m_Ro_countFewest 0 [.ref 19, .null, .null, .null] [] (hp I J (pm_RT pa pb ga)) (fun r h' => h'.1 = 176 ∧ Px (k + 1) 176 m_Ro_takeText 112 [.ref 19, .ref 17, .int x2, .int x3, .int x4, .int x5] (r.toList ++ []) h' Q)) : Px (k + 1) 176 m_Ro_takeText 108 [.ref 19, .ref 17, .int x2, .int x3, .int x4, .int x5] [] (hp I J (pm_RT pa pb ga)) Q := by
  refine x_l 109 rfl rfl rfl ?_
  exact z_cv (As := []) (rest := []) (b := 19) rfl at_Ro_countFewest rfl rfl (Nat.le_of_ble_eq_true rfl) (Nat.le_of_ble_eq_true rfl) ⟨rfl, rfl, rfl⟩ (by decide) rfl h

theorem bk_Ro_takeText_112 {k : Nat} {pa pb : Nat} {ga : Nat → Nat} {I : pm_II} {J : pm_JJ} {Q : Option Value → pm_H → Prop} {x2 : Int32} {x3 : Int32} {x4 : Int32} {x5 : Int32} (h : Px k 176 m_Ro_makePlan 0 [.ref 19, .null, .null] [] (hp I J (pm_RT pa pb ga)) (fun r h' => h'.1 = 176 ∧ Px (k + 1) 176 m_Ro_takeText 116 [.ref 19, .ref 17, .int x2, .int x3, .int x4, .int x5] (r.toList ++ []) h' Q)) : Px (k + 1) 176 m_Ro_takeText 112 [.ref 19, .ref 17, .int x2, .int x3, .int x4, .int x5] [] (hp I J (pm_RT pa pb ga)) Q := by
  refine x_l 113 rfl rfl rfl ?_
  exact z_cv (As := []) (rest := []) (b := 19) rfl at_Ro_makePlan rfl rfl (Nat.le_of_ble_eq_true rfl) (Nat.le_of_ble_eq_true rfl) ⟨rfl, rfl, rfl⟩ (by decide) rfl h

theorem bk_Ro_takeText_116 {k : Nat} {pa pb : Nat} {ga : Nat → Nat} {I : pm_II} {J : pm_JJ} {Q : Option Value → pm_H → Prop} {x2 : Int32} {x3 : Int32} {x4 : Int32} {x5 : Int32} (h : Q (some (.int (I 19 12))) (hp I J (pm_RT pa pb ga))) : Px (k + 1) 176 m_Ro_takeText 116 [.ref 19, .ref 17, .int x2, .int x3, .int x4, .int x5] [] (hp I J (pm_RT pa pb ga)) Q := by
  refine x_l 117 rfl rfl rfl ?_
  refine z_gf 120 (.int (I 19 12)) rfl ⟨rfl, rfl, rfl⟩ rfl rfl ?_
  exact x_ri rfl (Or.inl rfl) h

theorem bk_Ro_readLine_0 {k : Nat} {pa pb : Nat} {ga : Nat → Nat} {I : pm_II} {J : pm_JJ} {Q : Option Value → pm_H → Prop} {x2 : Int32} {x3 : Int32} {x4 : Int32} (h : Px k 176 m_Ta_readKeyword 0 [.ref 17, .ref 4] [] (hp I J (pm_RT pa pb ga)) (fun r h' => h'.1 = 176 ∧ Px (k + 1) 176 m_Ro_readLine 6 [.ref 19, .ref 17, .int x2, .int x3, .int x4, .null] (r.toList ++ []) h' Q)) : Px (k + 1) 176 m_Ro_readLine 0 [.ref 19, .ref 17, .int x2, .int x3, .int x4, .null] [] (hp I J (pm_RT pa pb ga)) Q := by
  refine x_l 1 rfl rfl rfl ?_
  refine x_ls 3 rfl (Or.inl rfl) rfl ?_
  exact z_cv (As := [.ref 4]) (rest := []) (b := 17) rfl at_Ta_readKeyword rfl rfl (Nat.le_of_ble_eq_true rfl) (Nat.le_of_ble_eq_true rfl) ⟨rfl, rfl, rfl⟩ (by decide) rfl h

theorem bk_Ro_readLine_6 {k : Nat} {pa pb : Nat} {ga : Nat → Nat} {I : pm_II} {J : pm_JJ} {Q : Option Value → pm_H → Prop} {x2 : Int32} {x3 : Int32} {x4 : Int32} (h : Px k 176 m_Ta_readNextNumber 0 [.ref 17, .int 10, .int x3] [] (hp I J (pm_RT pa pb ga)) (fun r h' => h'.1 = 176 ∧ Px (k + 1) 176 m_Ro_readLine 18 [.ref 19, .ref 17, .int x2, .int x3, .int x4, .null] (r.toList ++ [.int x2, .ref 22]) h' Q)) : Px (k + 1) 176 m_Ro_readLine 6 [.ref 19, .ref 17, .int x2, .int x3, .int x4, .null] [] (hp I J (pm_RT pa pb ga)) Q := by
  refine x_l 7 rfl rfl rfl ?_
  refine z_gf 10 (.ref 22) rfl ⟨rfl, rfl, rfl⟩ rfl rfl ?_
  refine x_l 11 rfl rfl rfl ?_
  refine x_l 12 rfl rfl rfl ?_
  refine z_k 14 10 rfl (by decide) rfl ?_
  refine x_l 15 rfl rfl rfl ?_
  exact z_cv (As := [.int 10, .int x3]) (rest := [.int x2, .ref 22]) (b := 17) rfl at_Ta_readNextNumber rfl rfl (Nat.le_of_ble_eq_true rfl) (Nat.le_of_ble_eq_true rfl) ⟨rfl, rfl, rfl⟩ (by decide) rfl h

theorem bk_Ro_readLine_18 {k : Nat} {pa pb : Nat} {ga : Nat → Nat} {I : pm_II} {J : pm_JJ} {Q : Option Value → pm_H → Prop} {x2 : Int32} {x3 : Int32} {x4 : Int32} {s1 : Int32} {s2 : Int32} (h : vp_in s1 4 ∧ Px (k + 1) 176 m_Ro_readLine 22 [.ref 19, .ref 17, .int x2, .int x3, .int x4, .int 0] [] (hp (pm_up I 22 ((s1 : Int32).toNatClampNeg) s2) J (pm_RT pa pb ga)) Q) : Px (k + 1) 176 m_Ro_readLine 18 [.ref 19, .ref 17, .int x2, .int x3, .int x4, .null] [.int s2, .int s1, .ref 22] (hp I J (pm_RT pa pb ga)) Q := by
  have h1 := h.1
  have h := h.2
  refine z_is 19 4 rfl ⟨rfl, rfl, rfl⟩ rfl h1 rfl ?_
  refine z_k 20 0 rfl (by decide) rfl ?_
  refine x_t 22 rfl rfl rfl ?_
  exact h

theorem bk_Ro_readLine_22 {k : Nat} {pa pb : Nat} {ga : Nat → Nat} {I : pm_II} {J : pm_JJ} {Q : Option Value → pm_H → Prop} {x2 : Int32} {x3 : Int32} {x4 : Int32} {x5 : Int32} (h : ((x2 ≤ x5 → Px k 176 m_Jm_min_II 0 [.int 9, .int x4] [] (hp I J (pm_RT pa pb ga)) (fun r h' => h'.1 = 176 ∧ Px (k + 1) 176 m_Ro_readLine 68 [.ref 19, .ref 17, .int x2, .int x3, .int x4, .int x5] (r.toList ++ [.int 1, .ref 17, .int x2, .ref 23]) h' Q)) ∧ (¬ (x2 ≤ x5) → vp_in x5 4 ∧ vp_in x2 4 ∧ ((¬ (I 22 ((x5 : Int32).toNatClampNeg)) = (I 22 ((x2 : Int32).toNatClampNeg)) → Px (k + 1) 176 m_Ro_readLine 48 [.ref 19, .ref 17, .int x2, .int x3, .int x4, .int x5] [] (hp I J (pm_RT pa pb ga)) Q) ∧ (¬ (¬ (I 22 ((x5 : Int32).toNatClampNeg)) = (I 22 ((x2 : Int32).toNatClampNeg))) → Px k 176 m_Ta_blameToken 0 [.ref 17] [] (hp I J (pm_RT pa pb ga)) (fun r h' => h'.1 = 176 ∧ Px (k + 1) 176 m_Ro_readLine 48 [.ref 19, .ref 17, .int x2, .int x3, .int x4, .int x5] (r.toList ++ []) h' Q)))))) : Px (k + 1) 176 m_Ro_readLine 22 [.ref 19, .ref 17, .int x2, .int x3, .int x4, .int x5] [] (hp I J (pm_RT pa pb ga)) Q := by
  refine x_l 24 rfl rfl rfl ?_
  refine x_l 25 rfl rfl rfl ?_
  refine x_b 28 rfl rfl rfl (fun c => ?_) (fun c => ?_)
  · have h := h.1 c
    refine x_l 55 rfl rfl rfl ?_
    refine z_gf 58 (.ref 23) rfl ⟨rfl, rfl, rfl⟩ rfl rfl ?_
    refine x_l 59 rfl rfl rfl ?_
    refine x_l 60 rfl rfl rfl ?_
    refine z_k 61 1 rfl (by decide) rfl ?_
    refine z_k 63 9 rfl (by decide) rfl ?_
    refine x_l 65 rfl rfl rfl ?_
    exact z_cs (As := [.int 9, .int x4]) (rest := [.int 1, .ref 17, .int x2, .ref 23]) rfl at_Jm_min_II rfl rfl (Nat.le_of_ble_eq_true rfl) (Nat.le_of_ble_eq_true rfl) rfl h
  · have h := h.2 c
    refine x_l 29 rfl rfl rfl ?_
    refine z_gf 32 (.ref 22) rfl ⟨rfl, rfl, rfl⟩ rfl rfl ?_
    refine x_l 34 rfl rfl rfl ?_
    have h1 := h.1
    have h := h.2
    refine z_il 35 4 rfl ⟨rfl, rfl, rfl⟩ rfl h1 rfl ?_
    refine x_l 36 rfl rfl rfl ?_
    refine z_gf 39 (.ref 22) rfl ⟨rfl, rfl, rfl⟩ rfl rfl ?_
    refine x_l 40 rfl rfl rfl ?_
    have h1 := h.1
    have h := h.2
    refine z_il 41 4 rfl ⟨rfl, rfl, rfl⟩ rfl h1 rfl ?_
    refine x_b 44 rfl rfl rfl (fun c => ?_) (fun c => ?_)
    · have h := h.1 c
      exact h
    · have h := h.2 c
      refine x_l 45 rfl rfl rfl ?_
      exact z_cv (As := []) (rest := []) (b := 17) rfl at_Ta_blameToken rfl rfl (Nat.le_of_ble_eq_true rfl) (Nat.le_of_ble_eq_true rfl) ⟨rfl, rfl, rfl⟩ (by decide) rfl h

theorem bk_Ro_readLine_48 {k : Nat} {pa pb : Nat} {ga : Nat → Nat} {I : pm_II} {J : pm_JJ} {Q : Option Value → pm_H → Prop} {x2 : Int32} {x3 : Int32} {x4 : Int32} {x5 : Int32} (h : Px (k + 1) 176 m_Ro_readLine 22 [.ref 19, .ref 17, .int x2, .int x3, .int x4, .int (x5 + Int32.ofInt 1)] [] (hp I J (pm_RT pa pb ga)) Q) : Px (k + 1) 176 m_Ro_readLine 48 [.ref 19, .ref 17, .int x2, .int x3, .int x4, .int x5] [] (hp I J (pm_RT pa pb ga)) Q := by
  refine x_t 51 rfl rfl rfl ?_
  refine x_g rfl ?_
  exact h

theorem bk_Ro_readLine_68 {k : Nat} {pa pb : Nat} {ga : Nat → Nat} {I : pm_II} {J : pm_JJ} {Q : Option Value → pm_H → Prop} {x2 : Int32} {x3 : Int32} {x4 : Int32} {x5 : Int32} {s1 : Int32} {s3 : Int32} {s4 : Int32} (h : Px k 176 m_Ta_readNextNumber 0 [.ref 17, .int s3, .int s4] [] (hp I J (pm_RT pa pb ga)) (fun r h' => h'.1 = 176 ∧ Px (k + 1) 176 m_Ro_readLine 71 [.ref 19, .ref 17, .int x2, .int x3, .int x4, .int x5] (r.toList ++ [.int s1, .ref 23]) h' Q)) : Px (k + 1) 176 m_Ro_readLine 68 [.ref 19, .ref 17, .int x2, .int x3, .int x4, .int x5] [.int s4, .int s3, .ref 17, .int s1, .ref 23] (hp I J (pm_RT pa pb ga)) Q := by
  exact z_cv (As := [.int s3, .int s4]) (rest := [.int s1, .ref 23]) (b := 17) rfl at_Ta_readNextNumber rfl rfl (Nat.le_of_ble_eq_true rfl) (Nat.le_of_ble_eq_true rfl) ⟨rfl, rfl, rfl⟩ (by decide) rfl h

theorem bk_Ro_readLine_71 {k : Nat} {pa pb : Nat} {ga : Nat → Nat} {I : pm_II} {J : pm_JJ} {Q : Option Value → pm_H → Prop} {x2 : Int32} {x3 : Int32} {x4 : Int32} {x5 : Int32} {s1 : Int32} {s2 : Int32} (h : vp_in s1 4 ∧ Px k 176 m_Ta_expect 0 [.ref 17, .int 10] [] (hp (pm_up I 23 ((s1 : Int32).toNatClampNeg) s2) J (pm_RT pa pb ga)) (fun r h' => h'.1 = 176 ∧ Px (k + 1) 176 m_Ro_readLine 78 [.ref 19, .ref 17, .int x2, .int x3, .int x4, .int x5] (r.toList ++ []) h' Q)) : Px (k + 1) 176 m_Ro_readLine 71 [.ref 19, .ref 17, .int x2, .int x3, .int x4, .int x5] [.int s2, .int s1, .ref 23] (hp I J (pm_RT pa pb ga)) Q := by
  have h1 := h.1
  have h := h.2
  refine z_is 72 4 rfl ⟨rfl, rfl, rfl⟩ rfl h1 rfl ?_
  refine x_l 73 rfl rfl rfl ?_
  refine z_k 75 10 rfl (by decide) rfl ?_
  exact z_cv (As := [.int 10]) (rest := []) (b := 17) rfl at_Ta_expect rfl rfl (Nat.le_of_ble_eq_true rfl) (Nat.le_of_ble_eq_true rfl) ⟨rfl, rfl, rfl⟩ (by decide) rfl h

theorem bk_Ro_readLine_78 {k : Nat} {pa pb : Nat} {ga : Nat → Nat} {I : pm_II} {J : pm_JJ} {Q : Option Value → pm_H → Prop} {x2 : Int32} {x3 : Int32} {x4 : Int32} {x5 : Int32} (h : Q none (hp I J (pm_RT pa pb ga))) : Px (k + 1) 176 m_Ro_readLine 78 [.ref 19, .ref 17, .int x2, .int x3, .int x4, .int x5] [] (hp I J (pm_RT pa pb ga)) Q := by
  exact x_rv rfl rfl h

theorem bk_Ro_adopt_0 {k : Nat} {pa pb : Nat} {ga : Nat → Nat} {I : pm_II} {J : pm_JJ} {Q : Option Value → pm_H → Prop} (h : Px k 176 m_Ro_adopt 2 [.ref 19, .int 0, .null] [] (hp I J (pm_RT pa pb ga)) Q) : Px k 176 m_Ro_adopt 0 [.ref 19, .null, .null] [] (hp I J (pm_RT pa pb ga)) Q := by
  refine z_k 1 0 rfl (by decide) rfl ?_
  refine x_t 2 rfl rfl rfl ?_
  exact h

theorem bk_Ro_adopt_2 {k : Nat} {pa pb : Nat} {ga : Nat → Nat} {I : pm_II} {J : pm_JJ} {Q : Option Value → pm_H → Prop} {x1 : Int32} (h : ((4 ≤ x1 → Px k 176 m_Ro_adopt 65 [.ref 19, .int 1, .int 3] [] (hp I J (pm_RT pa pb ga)) Q) ∧ (¬ (4 ≤ x1) → (((I 19 11) ≤ x1 → Px k 176 m_Ro_adopt 30 [.ref 19, .int x1, .null] [.int 0, .int x1, .ref 20] (hp I J (pm_RT pa pb ga)) Q) ∧ (¬ ((I 19 11) ≤ x1) → vp_in x1 4 ∧ Px k 176 m_Ro_adopt 30 [.ref 19, .int x1, .null] [.int (I 22 ((x1 : Int32).toNatClampNeg)), .int x1, .ref 20] (hp I J (pm_RT pa pb ga)) Q))))) : Px k 176 m_Ro_adopt 2 [.ref 19, .int x1, .null] [] (hp I J (pm_RT pa pb ga)) Q := by
  refine x_l 3 rfl rfl rfl ?_
  refine z_k 4 4 rfl (by decide) rfl ?_
  refine x_b 7 rfl rfl rfl (fun c => ?_) (fun c => ?_)
  · have h := h.1 c
    refine z_k 62 1 rfl (by decide) rfl ?_
    refine x_t 63 rfl rfl rfl ?_
    refine z_k 64 3 rfl (by decide) rfl ?_
    refine x_t 65 rfl rfl rfl ?_
    exact h
  · have h := h.2 c
    refine x_l 8 rfl rfl rfl ?_
    refine z_gf 11 (.ref 20) rfl ⟨rfl, rfl, rfl⟩ rfl rfl ?_
    refine x_l 12 rfl rfl rfl ?_
    refine x_l 13 rfl rfl rfl ?_
    refine x_l 14 rfl rfl rfl ?_
    refine z_gf 17 (.int (I 19 11)) rfl ⟨rfl, rfl, rfl⟩ rfl rfl ?_
    refine x_b 20 rfl rfl rfl (fun c => ?_) (fun c => ?_)
    · have h := h.1 c
      refine z_k 30 0 rfl (by decide) rfl ?_
      exact h
    · have h := h.2 c
      refine x_l 21 rfl rfl rfl ?_
      refine z_gf 24 (.ref 22) rfl ⟨rfl, rfl, rfl⟩ rfl rfl ?_
      refine x_l 25 rfl rfl rfl ?_
      have h1 := h.1
      have h := h.2
      refine z_il 26 4 rfl ⟨rfl, rfl, rfl⟩ rfl h1 rfl ?_
      refine x_g rfl ?_
      exact h

theorem bk_Ro_adopt_30 {k : Nat} {pa pb : Nat} {ga : Nat → Nat} {I : pm_II} {J : pm_JJ} {Q : Option Value → pm_H → Prop} {x1 : Int32} {s1 : Int32} {s2 : Int32} (h : vp_in s1 4 ∧ (((I 19 11) ≤ x1 → vp_in x1 4 ∧ Px k 176 m_Ro_adopt 2 [.ref 19, .int (x1 + Int32.ofInt 1), .null] [] (hp (pm_up (pm_up I 20 ((s1 : Int32).toNatClampNeg) s2) 21 ((x1 : Int32).toNatClampNeg) 0) J (pm_RT pa pb ga)) Q) ∧ (¬ ((I 19 11) ≤ x1) → vp_in x1 4 ∧ vp_in x1 4 ∧ Px k 176 m_Ro_adopt 2 [.ref 19, .int (x1 + Int32.ofInt 1), .null] [] (hp (pm_up (pm_up I 20 ((s1 : Int32).toNatClampNeg) s2) 21 ((x1 : Int32).toNatClampNeg) (I 23 ((x1 : Int32).toNatClampNeg))) J (pm_RT pa pb ga)) Q))) : Px k 176 m_Ro_adopt 30 [.ref 19, .int x1, .null] [.int s2, .int s1, .ref 20] (hp I J (pm_RT pa pb ga)) Q := by
  have h1 := h.1
  have h := h.2
  refine z_is 31 4 rfl ⟨rfl, rfl, rfl⟩ rfl h1 rfl ?_
  refine x_l 32 rfl rfl rfl ?_
  refine z_gf 35 (.ref 21) rfl ⟨rfl, rfl, rfl⟩ rfl rfl ?_
  refine x_l 36 rfl rfl rfl ?_
  refine x_l 37 rfl rfl rfl ?_
  refine x_l 38 rfl rfl rfl ?_
  refine z_gf 41 (.int (I 19 11)) rfl ⟨rfl, rfl, rfl⟩ rfl rfl ?_
  refine x_b 44 rfl rfl rfl (fun c => ?_) (fun c => ?_)
  · have h := h.1 c
    refine z_k 54 0 rfl (by decide) rfl ?_
    have h1 := h.1
    have h := h.2
    refine z_is 55 4 rfl ⟨rfl, rfl, rfl⟩ rfl h1 rfl ?_
    refine x_t 58 rfl rfl rfl ?_
    refine x_g rfl ?_
    exact h
  · have h := h.2 c
    refine x_l 45 rfl rfl rfl ?_
    refine z_gf 48 (.ref 23) rfl ⟨rfl, rfl, rfl⟩ rfl rfl ?_
    refine x_l 49 rfl rfl rfl ?_
    have h1 := h.1
    have h := h.2
    refine z_il 50 4 rfl ⟨rfl, rfl, rfl⟩ rfl h1 rfl ?_
    refine x_g rfl ?_
    have h1 := h.1
    have h := h.2
    refine z_is 55 4 rfl ⟨rfl, rfl, rfl⟩ rfl h1 rfl ?_
    refine x_t 58 rfl rfl rfl ?_
    refine x_g rfl ?_
    exact h

theorem bk_Ro_adopt_65 {k : Nat} {pa pb : Nat} {ga : Nat → Nat} {I : pm_II} {J : pm_JJ} {Q : Option Value → pm_H → Prop} {x1 : Int32} {x2 : Int32} (h : ((x2 < 0 → Q none (hp I J (pm_RT pa pb ga))) ∧ (¬ (x2 < 0) → vp_in x2 4 ∧ vp_in x2 4 ∧ Px k 176 m_Ro_adopt 65 [.ref 19, .int (x1 * ((I 21 ((x2 : Int32).toNatClampNeg)) + (1 : Int32))), .int (x2 + Int32.ofInt (-1))] [] (hp (pm_up I 24 ((x2 : Int32).toNatClampNeg) x1) J (pm_RT pa pb ga)) Q))) : Px k 176 m_Ro_adopt 65 [.ref 19, .int x1, .int x2] [] (hp I J (pm_RT pa pb ga)) Q := by
  refine x_l 66 rfl rfl rfl ?_
  refine x_b 69 rfl rfl rfl (fun c => ?_) (fun c => ?_)
  · have h := h.1 c
    exact x_rv rfl rfl h
  · have h := h.2 c
    refine x_l 70 rfl rfl rfl ?_
    refine z_gf 73 (.ref 24) rfl ⟨rfl, rfl, rfl⟩ rfl rfl ?_
    refine x_l 74 rfl rfl rfl ?_
    refine x_l 75 rfl rfl rfl ?_
    have h1 := h.1
    have h := h.2
    refine z_is 76 4 rfl ⟨rfl, rfl, rfl⟩ rfl h1 rfl ?_
    refine x_l 77 rfl rfl rfl ?_
    refine x_l 78 rfl rfl rfl ?_
    refine z_gf 81 (.ref 21) rfl ⟨rfl, rfl, rfl⟩ rfl rfl ?_
    refine x_l 82 rfl rfl rfl ?_
    have h1 := h.1
    have h := h.2
    refine z_il 83 4 rfl ⟨rfl, rfl, rfl⟩ rfl h1 rfl ?_
    refine z_k 84 1 rfl (by decide) rfl ?_
    refine x_s 85 rfl rfl rfl ?_
    refine x_s 86 rfl rfl rfl ?_
    refine x_t 87 rfl rfl rfl ?_
    refine x_t 90 rfl rfl rfl ?_
    refine x_g rfl ?_
    exact h

theorem bk_Ro_countFewest_0 {k : Nat} {pa pb : Nat} {ga : Nat → Nat} {I : pm_II} {J : pm_JJ} {Q : Option Value → pm_H → Prop} (h : Px k 176 m_Ro_wholeState 0 [.ref 19, .null, .null] [] (hp I J (pm_RT pa pb ga)) (fun r h' => h'.1 = 176 ∧ Px (k + 1) 176 m_Ro_countFewest 4 [.ref 19, .null, .null, .null] (r.toList ++ []) h' Q)) : Px (k + 1) 176 m_Ro_countFewest 0 [.ref 19, .null, .null, .null] [] (hp I J (pm_RT pa pb ga)) Q := by
  refine x_l 1 rfl rfl rfl ?_
  exact z_cv (As := []) (rest := []) (b := 19) rfl at_Ro_wholeState rfl rfl (Nat.le_of_ble_eq_true rfl) (Nat.le_of_ble_eq_true rfl) ⟨rfl, rfl, rfl⟩ (by decide) rfl h

theorem bk_Ro_countFewest_4 {k : Nat} {pa pb : Nat} {ga : Nat → Nat} {I : pm_II} {J : pm_JJ} {Q : Option Value → pm_H → Prop} {s0 : Int32} (h : Px (k + 1) 176 m_Ro_countFewest 7 [.ref 19, .int s0, .int 0, .null] [] (hp I J (pm_RT pa pb ga)) Q) : Px (k + 1) 176 m_Ro_countFewest 4 [.ref 19, .null, .null, .null] [.int s0] (hp I J (pm_RT pa pb ga)) Q := by
  refine x_t 5 rfl rfl rfl ?_
  refine z_k 6 0 rfl (by decide) rfl ?_
  refine x_t 7 rfl rfl rfl ?_
  exact h

theorem bk_Ro_countFewest_7 {k : Nat} {pa pb : Nat} {ga : Nat → Nat} {I : pm_II} {J : pm_JJ} {Q : Option Value → pm_H → Prop} {x1 : Int32} {x2 : Int32} (h : ((4 ≤ x2 → Px (k + 1) 176 m_Ro_countFewest 34 [.ref 19, .int x1, .int 1, .null] [] (hp (pm_up I 27 0 0) J (pm_RT pa pb ga)) Q) ∧ (¬ (4 ≤ x2) → vp_in x2 4 ∧ Px (k + 1) 176 m_Ro_countFewest 7 [.ref 19, .int x1, .int (x2 + Int32.ofInt 1), .null] [] (hp (pm_up I 25 ((x2 : Int32).toNatClampNeg) 0) J (pm_RT pa pb ga)) Q))) : Px (k + 1) 176 m_Ro_countFewest 7 [.ref 19, .int x1, .int x2, .null] [] (hp I J (pm_RT pa pb ga)) Q := by
  refine x_l 8 rfl rfl rfl ?_
  refine z_k 9 4 rfl (by decide) rfl ?_
  refine x_b 12 rfl rfl rfl (fun c => ?_) (fun c => ?_)
  · have h := h.1 c
    refine x_l 26 rfl rfl rfl ?_
    refine z_gf 29 (.ref 27) rfl ⟨rfl, rfl, rfl⟩ rfl rfl ?_
    refine z_k 30 0 rfl (by decide) rfl ?_
    refine z_k 31 0 rfl (by decide) rfl ?_
    refine z_is 32 625 rfl ⟨rfl, rfl, rfl⟩ rfl (by unfold vp_in; decide) rfl ?_
    refine z_k 33 1 rfl (by decide) rfl ?_
    refine x_t 34 rfl rfl rfl ?_
    exact h
  · have h := h.2 c
    refine x_l 13 rfl rfl rfl ?_
    refine z_gf 16 (.ref 25) rfl ⟨rfl, rfl, rfl⟩ rfl rfl ?_
    refine x_l 17 rfl rfl rfl ?_
    refine z_k 18 0 rfl (by decide) rfl ?_
    have h1 := h.1
    have h := h.2
    refine z_is 19 4 rfl ⟨rfl, rfl, rfl⟩ rfl h1 rfl ?_
    refine x_t 22 rfl rfl rfl ?_
    refine x_g rfl ?_
    exact h

theorem bk_Ro_countFewest_34 {k : Nat} {pa pb : Nat} {ga : Nat → Nat} {I : pm_II} {J : pm_JJ} {Q : Option Value → pm_H → Prop} {x1 : Int32} {x2 : Int32} (h : ((x1 < x2 → Q none (hp I J (pm_RT pa pb ga))) ∧ (¬ (x1 < x2) → Px k 176 m_Ro_stepOpen 0 [.ref 19, .null] [] (hp I J (pm_RT pa pb ga)) (fun r h' => h'.1 = 176 ∧ Px (k + 1) 176 m_Ro_countFewest 43 [.ref 19, .int x1, .int x2, .null] (r.toList ++ []) h' Q)))) : Px (k + 1) 176 m_Ro_countFewest 34 [.ref 19, .int x1, .int x2, .null] [] (hp I J (pm_RT pa pb ga)) Q := by
  refine x_l 35 rfl rfl rfl ?_
  refine x_l 36 rfl rfl rfl ?_
  refine x_b 39 rfl rfl rfl (fun c => ?_) (fun c => ?_)
  · have h := h.1 c
    exact x_rv rfl rfl h
  · have h := h.2 c
    refine x_l 40 rfl rfl rfl ?_
    exact z_cv (As := []) (rest := []) (b := 19) rfl at_Ro_stepOpen rfl rfl (Nat.le_of_ble_eq_true rfl) (Nat.le_of_ble_eq_true rfl) ⟨rfl, rfl, rfl⟩ (by decide) rfl h

theorem bk_Ro_countFewest_43 {k : Nat} {pa pb : Nat} {ga : Nat → Nat} {I : pm_II} {J : pm_JJ} {Q : Option Value → pm_H → Prop} {x1 : Int32} {x2 : Int32} (h : Px k 176 m_Ro_onePiece 0 [.ref 19, .null] [] (hp I J (pm_RT pa pb ga)) (fun r h' => h'.1 = 176 ∧ Px (k + 1) 176 m_Ro_countFewest 53 [.ref 19, .int x1, .int x2, .null] (r.toList ++ [.int x2, .int 0, .ref 27]) h' Q)) : Px (k + 1) 176 m_Ro_countFewest 43 [.ref 19, .int x1, .int x2, .null] [] (hp I J (pm_RT pa pb ga)) Q := by
  refine x_l 44 rfl rfl rfl ?_
  refine z_gf 47 (.ref 27) rfl ⟨rfl, rfl, rfl⟩ rfl rfl ?_
  refine z_k 48 0 rfl (by decide) rfl ?_
  refine x_l 49 rfl rfl rfl ?_
  refine x_l 50 rfl rfl rfl ?_
  exact z_cv (As := []) (rest := [.int x2, .int 0, .ref 27]) (b := 19) rfl at_Ro_onePiece rfl rfl (Nat.le_of_ble_eq_true rfl) (Nat.le_of_ble_eq_true rfl) ⟨rfl, rfl, rfl⟩ (by decide) rfl h

theorem bk_Ro_countFewest_53 {k : Nat} {pa pb : Nat} {ga : Nat → Nat} {I : pm_II} {J : pm_JJ} {Q : Option Value → pm_H → Prop} {x1 : Int32} {x2 : Int32} {s1 : Int32} {s2 : Int32} {s3 : Int32} (h : Px k 176 m_Jm_max 0 [.int s1, .int (s2 - s3)] [] (hp I J (pm_RT pa pb ga)) (fun r h' => h'.1 = 176 ∧ Px (k + 1) 176 m_Ro_countFewest 57 [.ref 19, .int x1, .int x2, .null] (r.toList ++ [.ref 27]) h' Q)) : Px (k + 1) 176 m_Ro_countFewest 53 [.ref 19, .int x1, .int x2, .null] [.int s3, .int s2, .int s1, .ref 27] (hp I J (pm_RT pa pb ga)) Q := by
  refine x_s 54 rfl rfl rfl ?_
  exact z_cs (As := [.int s1, .int (s2 - s3)]) (rest := [.ref 27]) rfl at_Jm_max rfl rfl (Nat.le_of_ble_eq_true rfl) (Nat.le_of_ble_eq_true rfl) rfl h

theorem bk_Ro_countFewest_57 {k : Nat} {pa pb : Nat} {ga : Nat → Nat} {I : pm_II} {J : pm_JJ} {Q : Option Value → pm_H → Prop} {x1 : Int32} {x2 : Int32} {s1 : Int32} (h : vp_in s1 625 ∧ vp_in x2 625 ∧ Px k 176 m_Ro_reaches 0 [.ref 19, .int 0, .int (I 19 10), .int (I 19 9), .int x2, .int ((I 27 ((s1 : Int32).toNatClampNeg)) - (1 : Int32)), .null, .null] [] (hp (pm_up I 27 ((x2 : Int32).toNatClampNeg) 99) J (pm_RT pa pb ga)) (fun r h' => h'.1 = 176 ∧ Px (k + 1) 176 m_Ro_countFewest 89 [.ref 19, .int x1, .int x2, .int (I 27 ((s1 : Int32).toNatClampNeg))] (r.toList ++ [.int x2, .ref 27]) h' Q)) : Px (k + 1) 176 m_Ro_countFewest 57 [.ref 19, .int x1, .int x2, .null] [.int s1, .ref 27] (hp I J (pm_RT pa pb ga)) Q := by
  have h1 := h.1
  have h := h.2
  refine z_il 58 625 rfl ⟨rfl, rfl, rfl⟩ rfl h1 rfl ?_
  refine x_t 59 rfl rfl rfl ?_
  refine x_l 60 rfl rfl rfl ?_
  refine z_gf 63 (.ref 27) rfl ⟨rfl, rfl, rfl⟩ rfl rfl ?_
  refine x_l 64 rfl rfl rfl ?_
  refine z_k 66 99 rfl (by decide) rfl ?_
  have h1 := h.1
  have h := h.2
  refine z_is 67 625 rfl ⟨rfl, rfl, rfl⟩ rfl h1 rfl ?_
  refine x_l 68 rfl rfl rfl ?_
  refine z_gf 71 (.ref 27) rfl ⟨rfl, rfl, rfl⟩ rfl rfl ?_
  refine x_l 72 rfl rfl rfl ?_
  refine x_l 73 rfl rfl rfl ?_
  refine z_k 74 0 rfl (by decide) rfl ?_
  refine x_l 75 rfl rfl rfl ?_
  refine z_gf 78 (.int (I 19 10)) rfl ⟨rfl, rfl, rfl⟩ rfl rfl ?_
  refine x_l 79 rfl rfl rfl ?_
  refine z_gf 82 (.int (I 19 9)) rfl ⟨rfl, rfl, rfl⟩ rfl rfl ?_
  refine x_l 83 rfl rfl rfl ?_
  refine x_l 84 rfl rfl rfl ?_
  refine z_k 85 1 rfl (by decide) rfl ?_
  refine x_s 86 rfl rfl rfl ?_
  exact z_cv (As := [.int 0, .int (I 19 10), .int (I 19 9), .int x2, .int ((I 27 ((s1 : Int32).toNatClampNeg)) - (1 : Int32))]) (rest := [.int x2, .ref 27]) (b := 19) rfl at_Ro_reaches rfl rfl (Nat.le_of_ble_eq_true rfl) (Nat.le_of_ble_eq_true rfl) ⟨rfl, rfl, rfl⟩ (by decide) rfl h

theorem bk_Ro_countFewest_89 {k : Nat} {pa pb : Nat} {ga : Nat → Nat} {I : pm_II} {J : pm_JJ} {Q : Option Value → pm_H → Prop} {x1 : Int32} {x2 : Int32} {x3 : Int32} {s1 : Int32} {s2 : Int32} (h : ((s2 = 0 → vp_in s1 625 ∧ Px (k + 1) 176 m_Ro_countFewest 34 [.ref 19, .int x1, .int (x2 + Int32.ofInt 1), .int x3] [] (hp (pm_up I 27 ((s1 : Int32).toNatClampNeg) (x3 + (1 : Int32))) J (pm_RT pa pb ga)) Q) ∧ (¬ (s2 = 0) → vp_in s1 625 ∧ Px (k + 1) 176 m_Ro_countFewest 34 [.ref 19, .int x1, .int (x2 + Int32.ofInt 1), .int x3] [] (hp (pm_up I 27 ((s1 : Int32).toNatClampNeg) x3) J (pm_RT pa pb ga)) Q))) : Px (k + 1) 176 m_Ro_countFewest 89 [.ref 19, .int x1, .int x2, .int x3] [.int s2, .int s1, .ref 27] (hp I J (pm_RT pa pb ga)) Q := by
  refine x_b 92 rfl rfl rfl (fun c => ?_) (fun c => ?_)
  · have h := h.1 c
    refine x_l 97 rfl rfl rfl ?_
    refine z_k 98 1 rfl (by decide) rfl ?_
    refine x_s 99 rfl rfl rfl ?_
    have h1 := h.1
    have h := h.2
    refine z_is 100 625 rfl ⟨rfl, rfl, rfl⟩ rfl h1 rfl ?_
    refine x_t 103 rfl rfl rfl ?_
    refine x_g rfl ?_
    exact h
  · have h := h.2 c
    refine x_l 93 rfl rfl rfl ?_
    refine x_g rfl ?_
    have h1 := h.1
    have h := h.2
    refine z_is 100 625 rfl ⟨rfl, rfl, rfl⟩ rfl h1 rfl ?_
    refine x_t 103 rfl rfl rfl ?_
    refine x_g rfl ?_
    exact h

theorem bk_Ro_wholeState_0 {k : Nat} {pa pb : Nat} {ga : Nat → Nat} {I : pm_II} {J : pm_JJ} {Q : Option Value → pm_H → Prop} (h : Px (k + 1) 176 m_Ro_wholeState 4 [.ref 19, .int 0, .int 0] [] (hp I J (pm_RT pa pb ga)) Q) : Px (k + 1) 176 m_Ro_wholeState 0 [.ref 19, .null, .null] [] (hp I J (pm_RT pa pb ga)) Q := by
  refine z_k 1 0 rfl (by decide) rfl ?_
  refine x_t 2 rfl rfl rfl ?_
  refine z_k 3 0 rfl (by decide) rfl ?_
  refine x_t 4 rfl rfl rfl ?_
  exact h

theorem bk_Ro_wholeState_4 {k : Nat} {pa pb : Nat} {ga : Nat → Nat} {I : pm_II} {J : pm_JJ} {Q : Option Value → pm_H → Prop} {x1 : Int32} {x2 : Int32} (h : ((4 ≤ x2 → Px k 176 m_Jm_min_II 0 [.int x1, .int 624] [] (hp I J (pm_RT pa pb ga)) (fun r h' => h'.1 = 176 ∧ Px (k + 1) 176 m_Ro_wholeState 38 [.ref 19, .int x1, .int x2] (r.toList ++ []) h' Q)) ∧ (¬ (4 ≤ x2) → vp_in x2 4 ∧ vp_in x2 4 ∧ Px (k + 1) 176 m_Ro_wholeState 4 [.ref 19, .int (x1 + ((I 21 ((x2 : Int32).toNatClampNeg)) * (I 24 ((x2 : Int32).toNatClampNeg)))), .int (x2 + Int32.ofInt 1)] [] (hp I J (pm_RT pa pb ga)) Q))) : Px (k + 1) 176 m_Ro_wholeState 4 [.ref 19, .int x1, .int x2] [] (hp I J (pm_RT pa pb ga)) Q := by
  refine x_l 5 rfl rfl rfl ?_
  refine z_k 6 4 rfl (by decide) rfl ?_
  refine x_b 9 rfl rfl rfl (fun c => ?_) (fun c => ?_)
  · have h := h.1 c
    refine x_l 32 rfl rfl rfl ?_
    refine z_k 35 624 rfl (by decide) rfl ?_
    exact z_cs (As := [.int x1, .int 624]) (rest := []) rfl at_Jm_min_II rfl rfl (Nat.le_of_ble_eq_true rfl) (Nat.le_of_ble_eq_true rfl) rfl h
  · have h := h.2 c
    refine x_l 10 rfl rfl rfl ?_
    refine x_l 11 rfl rfl rfl ?_
    refine z_gf 14 (.ref 21) rfl ⟨rfl, rfl, rfl⟩ rfl rfl ?_
    refine x_l 15 rfl rfl rfl ?_
    have h1 := h.1
    have h := h.2
    refine z_il 16 4 rfl ⟨rfl, rfl, rfl⟩ rfl h1 rfl ?_
    refine x_l 17 rfl rfl rfl ?_
    refine z_gf 20 (.ref 24) rfl ⟨rfl, rfl, rfl⟩ rfl rfl ?_
    refine x_l 21 rfl rfl rfl ?_
    have h1 := h.1
    have h := h.2
    refine z_il 22 4 rfl ⟨rfl, rfl, rfl⟩ rfl h1 rfl ?_
    refine x_s 23 rfl rfl rfl ?_
    refine x_s 24 rfl rfl rfl ?_
    refine x_t 25 rfl rfl rfl ?_
    refine x_t 28 rfl rfl rfl ?_
    refine x_g rfl ?_
    exact h

theorem bk_Ro_wholeState_38 {k : Nat} {pa pb : Nat} {ga : Nat → Nat} {I : pm_II} {J : pm_JJ} {Q : Option Value → pm_H → Prop} {x1 : Int32} {x2 : Int32} {s0 : Int32} (h : Q (some (.int s0)) (hp I J (pm_RT pa pb ga))) : Px (k + 1) 176 m_Ro_wholeState 38 [.ref 19, .int x1, .int x2] [.int s0] (hp I J (pm_RT pa pb ga)) Q := by
  exact x_ri rfl (Or.inl rfl) h

theorem bk_Ro_stepOpen_0 {k : Nat} {pa pb : Nat} {ga : Nat → Nat} {I : pm_II} {J : pm_JJ} {Q : Option Value → pm_H → Prop} (h : Px k 176 m_Ro_stepOpen 2 [.ref 19, .int 3] [] (hp I J (pm_RT pa pb ga)) Q) : Px k 176 m_Ro_stepOpen 0 [.ref 19, .null] [] (hp I J (pm_RT pa pb ga)) Q := by
  refine z_k 1 3 rfl (by decide) rfl ?_
  refine x_t 2 rfl rfl rfl ?_
  exact h

theorem bk_Ro_stepOpen_2 {k : Nat} {pa pb : Nat} {ga : Nat → Nat} {I : pm_II} {J : pm_JJ} {Q : Option Value → pm_H → Prop} {x1 : Int32} (h : ((x1 < 0 → Q none (hp I J (pm_RT pa pb ga))) ∧ (¬ (x1 < 0) → vp_in x1 4 ∧ vp_in x1 4 ∧ (((I 21 ((x1 : Int32).toNatClampNeg)) ≤ (I 25 ((x1 : Int32).toNatClampNeg)) → vp_in x1 4 ∧ Px k 176 m_Ro_stepOpen 2 [.ref 19, .int (x1 + Int32.ofInt (-1))] [] (hp (pm_up I 25 ((x1 : Int32).toNatClampNeg) 0) J (pm_RT pa pb ga)) Q) ∧ (¬ ((I 21 ((x1 : Int32).toNatClampNeg)) ≤ (I 25 ((x1 : Int32).toNatClampNeg))) → vp_in x1 4 ∧ vp_in x1 4 ∧ Q none (hp (pm_up I 25 ((x1 : Int32).toNatClampNeg) ((I 25 ((x1 : Int32).toNatClampNeg)) + (1 : Int32))) J (pm_RT pa pb ga))))))) : Px k 176 m_Ro_stepOpen 2 [.ref 19, .int x1] [] (hp I J (pm_RT pa pb ga)) Q := by
  refine x_l 3 rfl rfl rfl ?_
  refine x_b 6 rfl rfl rfl (fun c => ?_) (fun c => ?_)
  · have h := h.1 c
    exact x_rv rfl rfl h
  · have h := h.2 c
    refine x_l 7 rfl rfl rfl ?_
    refine z_gf 10 (.ref 25) rfl ⟨rfl, rfl, rfl⟩ rfl rfl ?_
    refine x_l 11 rfl rfl rfl ?_
    have h1 := h.1
    have h := h.2
    refine z_il 12 4 rfl ⟨rfl, rfl, rfl⟩ rfl h1 rfl ?_
    refine x_l 13 rfl rfl rfl ?_
    refine z_gf 16 (.ref 21) rfl ⟨rfl, rfl, rfl⟩ rfl rfl ?_
    refine x_l 17 rfl rfl rfl ?_
    have h1 := h.1
    have h := h.2
    refine z_il 18 4 rfl ⟨rfl, rfl, rfl⟩ rfl h1 rfl ?_
    refine x_b 21 rfl rfl rfl (fun c => ?_) (fun c => ?_)
    · have h := h.1 c
      refine x_l 33 rfl rfl rfl ?_
      refine z_gf 36 (.ref 25) rfl ⟨rfl, rfl, rfl⟩ rfl rfl ?_
      refine x_l 37 rfl rfl rfl ?_
      refine z_k 38 0 rfl (by decide) rfl ?_
      have h1 := h.1
      have h := h.2
      refine z_is 39 4 rfl ⟨rfl, rfl, rfl⟩ rfl h1 rfl ?_
      refine x_t 42 rfl rfl rfl ?_
      refine x_g rfl ?_
      exact h
    · have h := h.2 c
      refine x_l 22 rfl rfl rfl ?_
      refine z_gf 25 (.ref 25) rfl ⟨rfl, rfl, rfl⟩ rfl rfl ?_
      refine x_l 26 rfl rfl rfl ?_
      refine x_s 27 rfl rfl rfl ?_
      have h1 := h.1
      have h := h.2
      refine z_il 28 4 rfl ⟨rfl, rfl, rfl⟩ rfl h1 rfl ?_
      refine z_k 29 1 rfl (by decide) rfl ?_
      refine x_s 30 rfl rfl rfl ?_
      have h1 := h.1
      have h := h.2
      refine z_is 31 4 rfl ⟨rfl, rfl, rfl⟩ rfl h1 rfl ?_
      exact x_rv rfl rfl h

theorem bk_Ro_onePiece_0 {k : Nat} {pa pb : Nat} {ga : Nat → Nat} {I : pm_II} {J : pm_JJ} {Q : Option Value → pm_H → Prop} (h : Px k 176 m_Ro_onePiece 2 [.ref 19, .int 0] [] (hp I J (pm_RT pa pb ga)) Q) : Px k 176 m_Ro_onePiece 0 [.ref 19, .null] [] (hp I J (pm_RT pa pb ga)) Q := by
  refine z_k 1 0 rfl (by decide) rfl ?_
  refine x_t 2 rfl rfl rfl ?_
  exact h

theorem bk_Ro_onePiece_2 {k : Nat} {pa pb : Nat} {ga : Nat → Nat} {I : pm_II} {J : pm_JJ} {Q : Option Value → pm_H → Prop} {x1 : Int32} (h : ((4 ≤ x1 → Q (some (.int 0)) (hp I J (pm_RT pa pb ga))) ∧ (¬ (4 ≤ x1) → vp_in x1 4 ∧ (((I 25 ((x1 : Int32).toNatClampNeg)) ≤ 0 → Px k 176 m_Ro_onePiece 2 [.ref 19, .int (x1 + Int32.ofInt 1)] [] (hp I J (pm_RT pa pb ga)) Q) ∧ (¬ ((I 25 ((x1 : Int32).toNatClampNeg)) ≤ 0) → vp_in x1 4 ∧ Q (some (.int (I 24 ((x1 : Int32).toNatClampNeg)))) (hp I J (pm_RT pa pb ga))))))) : Px k 176 m_Ro_onePiece 2 [.ref 19, .int x1] [] (hp I J (pm_RT pa pb ga)) Q := by
  refine x_l 3 rfl rfl rfl ?_
  refine z_k 4 4 rfl (by decide) rfl ?_
  refine x_b 7 rfl rfl rfl (fun c => ?_) (fun c => ?_)
  · have h := h.1 c
    refine z_k 30 0 rfl (by decide) rfl ?_
    exact x_ri rfl (Or.inl rfl) h
  · have h := h.2 c
    refine x_l 8 rfl rfl rfl ?_
    refine z_gf 11 (.ref 25) rfl ⟨rfl, rfl, rfl⟩ rfl rfl ?_
    refine x_l 12 rfl rfl rfl ?_
    have h1 := h.1
    have h := h.2
    refine z_il 13 4 rfl ⟨rfl, rfl, rfl⟩ rfl h1 rfl ?_
    refine x_b 16 rfl rfl rfl (fun c => ?_) (fun c => ?_)
    · have h := h.1 c
      refine x_t 26 rfl rfl rfl ?_
      refine x_g rfl ?_
      exact h
    · have h := h.2 c
      refine x_l 17 rfl rfl rfl ?_
      refine z_gf 20 (.ref 24) rfl ⟨rfl, rfl, rfl⟩ rfl rfl ?_
      refine x_l 21 rfl rfl rfl ?_
      have h1 := h.1
      have h := h.2
      refine z_il 22 4 rfl ⟨rfl, rfl, rfl⟩ rfl h1 rfl ?_
      exact x_ri rfl (Or.inl rfl) h

theorem bk_Ro_reaches_0 {k : Nat} {pa pb : Nat} {ga : Nat → Nat} {I : pm_II} {J : pm_JJ} {Q : Option Value → pm_H → Prop} {x1 : Int32} {x2 : Int32} {x3 : Int32} {x4 : Int32} {x5 : Int32} (h : ((x1 < 0 → Q (some (.int 0)) (hp I J (pm_RT pa pb ga))) ∧ (¬ (x1 < 0) → ((4 ≤ x1 → Q (some (.int 0)) (hp I J (pm_RT pa pb ga))) ∧ (¬ (4 ≤ x1) → ((0 ≤ x5 → Px k 176 m_Ro_mostOf 0 [.ref 19, .int x1, .int x2, .int x3, .null] [] (hp I J (pm_RT pa pb ga)) (fun r h' => h'.1 = 176 ∧ Px (k + 1) 176 m_Ro_reaches 23 [.ref 19, .int x1, .int x2, .int x3, .int x4, .int x5, .null, .null] (r.toList ++ []) h' Q)) ∧ (¬ (0 ≤ x5) → Q (some (.int 0)) (hp I J (pm_RT pa pb ga))))))))) : Px (k + 1) 176 m_Ro_reaches 0 [.ref 19, .int x1, .int x2, .int x3, .int x4, .int x5, .null, .null] [] (hp I J (pm_RT pa pb ga)) Q := by
  refine x_l 1 rfl rfl rfl ?_
  refine x_b 4 rfl rfl rfl (fun c => ?_) (fun c => ?_)
  · have h := h.1 c
    refine z_k 15 0 rfl (by decide) rfl ?_
    exact x_ri rfl (Or.inr ⟨rfl, Or.inl rfl⟩) h
  · have h := h.2 c
    refine x_l 5 rfl rfl rfl ?_
    refine z_k 6 4 rfl (by decide) rfl ?_
    refine x_b 9 rfl rfl rfl (fun c => ?_) (fun c => ?_)
    · have h := h.1 c
      refine z_k 15 0 rfl (by decide) rfl ?_
      exact x_ri rfl (Or.inr ⟨rfl, Or.inl rfl⟩) h
    · have h := h.2 c
      refine x_l 11 rfl rfl rfl ?_
      refine x_b 14 rfl rfl rfl (fun c => ?_) (fun c => ?_)
      · have h := h.1 c
        refine x_l 17 rfl rfl rfl ?_
        refine x_l 18 rfl rfl rfl ?_
        refine x_l 19 rfl rfl rfl ?_
        refine x_l 20 rfl rfl rfl ?_
        exact z_cv (As := [.int x1, .int x2, .int x3]) (rest := []) (b := 19) rfl at_Ro_mostOf rfl rfl (Nat.le_of_ble_eq_true rfl) (Nat.le_of_ble_eq_true rfl) ⟨rfl, rfl, rfl⟩ (by decide) rfl h
      · have h := h.2 c
        refine z_k 15 0 rfl (by decide) rfl ?_
        exact x_ri rfl (Or.inr ⟨rfl, Or.inl rfl⟩) h

theorem bk_Ro_reaches_23 {k : Nat} {pa pb : Nat} {ga : Nat → Nat} {I : pm_II} {J : pm_JJ} {Q : Option Value → pm_H → Prop} {x1 : Int32} {x2 : Int32} {x3 : Int32} {x4 : Int32} {x5 : Int32} {s0 : Int32} (h : ((¬ x1 = 3 → Px (k + 1) 176 m_Ro_reaches 87 [.ref 19, .int x1, .int x2, .int x3, .int x4, .int x5, .int s0, .int s0] [] (hp I J (pm_RT pa pb ga)) Q) ∧ (¬ (¬ x1 = 3) → vp_in x1 4 ∧ vp_in x1 4 ∧ (((x4 - (s0 * (I 24 ((x1 : Int32).toNatClampNeg)))) < 0 → Q (some (.int 0)) (hp (pm_up I 26 ((x1 : Int32).toNatClampNeg) s0) J (pm_RT pa pb ga))) ∧ (¬ ((x4 - (s0 * (I 24 ((x1 : Int32).toNatClampNeg)))) < 0) → ((625 ≤ (x4 - (s0 * (I 24 ((x1 : Int32).toNatClampNeg)))) → Q (some (.int 0)) (hp (pm_up I 26 ((x1 : Int32).toNatClampNeg) s0) J (pm_RT pa pb ga))) ∧ (¬ (625 ≤ (x4 - (s0 * (I 24 ((x1 : Int32).toNatClampNeg))))) → vp_in (x4 - (s0 * (I 24 ((x1 : Int32).toNatClampNeg)))) 625 ∧ ((x5 < (I 27 (((x4 - (s0 * (I 24 ((x1 : Int32).toNatClampNeg)))) : Int32).toNatClampNeg)) → Q (some (.int 0)) (hp (pm_up I 26 ((x1 : Int32).toNatClampNeg) s0) J (pm_RT pa pb ga))) ∧ (¬ (x5 < (I 27 (((x4 - (s0 * (I 24 ((x1 : Int32).toNatClampNeg)))) : Int32).toNatClampNeg))) → Q (some (.int 1)) (hp (pm_up I 26 ((x1 : Int32).toNatClampNeg) s0) J (pm_RT pa pb ga))))))))))) : Px (k + 1) 176 m_Ro_reaches 23 [.ref 19, .int x1, .int x2, .int x3, .int x4, .int x5, .null, .null] [.int s0] (hp I J (pm_RT pa pb ga)) Q := by
  refine x_t 25 rfl rfl rfl ?_
  refine x_l 26 rfl rfl rfl ?_
  refine z_k 27 3 rfl (by decide) rfl ?_
  refine x_b 30 rfl rfl rfl (fun c => ?_) (fun c => ?_)
  · have h := h.1 c
    refine x_l 85 rfl rfl rfl ?_
    refine x_t 87 rfl rfl rfl ?_
    exact h
  · have h := h.2 c
    refine x_l 31 rfl rfl rfl ?_
    refine z_gf 34 (.ref 26) rfl ⟨rfl, rfl, rfl⟩ rfl rfl ?_
    refine x_l 35 rfl rfl rfl ?_
    refine x_l 37 rfl rfl rfl ?_
    have h1 := h.1
    have h := h.2
    refine z_is 38 4 rfl ⟨rfl, rfl, rfl⟩ rfl h1 rfl ?_
    refine x_l 40 rfl rfl rfl ?_
    refine x_l 42 rfl rfl rfl ?_
    refine x_l 43 rfl rfl rfl ?_
    refine z_gf 46 (.ref 24) rfl ⟨rfl, rfl, rfl⟩ rfl rfl ?_
    refine x_l 47 rfl rfl rfl ?_
    have h1 := h.1
    have h := h.2
    refine z_il 48 4 rfl ⟨rfl, rfl, rfl⟩ rfl h1 rfl ?_
    refine x_s 49 rfl rfl rfl ?_
    refine x_s 50 rfl rfl rfl ?_
    refine x_t 52 rfl rfl rfl ?_
    refine x_l 54 rfl rfl rfl ?_
    refine x_b 57 rfl rfl rfl (fun c => ?_) (fun c => ?_)
    · have h := h.1 c
      refine z_k 82 0 rfl (by decide) rfl ?_
      exact x_ri rfl (Or.inr ⟨rfl, Or.inl rfl⟩) h
    · have h := h.2 c
      refine x_l 59 rfl rfl rfl ?_
      refine z_k 62 625 rfl (by decide) rfl ?_
      refine x_b 65 rfl rfl rfl (fun c => ?_) (fun c => ?_)
      · have h := h.1 c
        refine z_k 82 0 rfl (by decide) rfl ?_
        exact x_ri rfl (Or.inr ⟨rfl, Or.inl rfl⟩) h
      · have h := h.2 c
        refine x_l 66 rfl rfl rfl ?_
        refine z_gf 69 (.ref 27) rfl ⟨rfl, rfl, rfl⟩ rfl rfl ?_
        refine x_l 71 rfl rfl rfl ?_
        have h1 := h.1
        have h := h.2
        refine z_il 72 625 rfl ⟨rfl, rfl, rfl⟩ rfl h1 rfl ?_
        refine x_l 74 rfl rfl rfl ?_
        refine x_b 77 rfl rfl rfl (fun c => ?_) (fun c => ?_)
        · have h := h.1 c
          refine z_k 82 0 rfl (by decide) rfl ?_
          exact x_ri rfl (Or.inr ⟨rfl, Or.inl rfl⟩) h
        · have h := h.2 c
          refine z_k 78 1 rfl (by decide) rfl ?_
          refine x_g rfl ?_
          exact x_ri rfl (Or.inr ⟨rfl, Or.inr rfl⟩) h

theorem bk_Ro_reaches_87 {k : Nat} {pa pb : Nat} {ga : Nat → Nat} {I : pm_II} {J : pm_JJ} {Q : Option Value → pm_H → Prop} {x1 : Int32} {x2 : Int32} {x3 : Int32} {x4 : Int32} {x5 : Int32} {x6 : Int32} {x7 : Int32} (h : ((x7 < 0 → Q (some (.int 0)) (hp I J (pm_RT pa pb ga))) ∧ (¬ (x7 < 0) → vp_in x1 4 ∧ vp_in x1 4 ∧ vp_in x1 4 ∧ Px k 176 m_Ro_reaches 0 [.ref 19, .int (x1 + (1 : Int32)), .int (x2 - x7), .int (x3 - (x7 * (I 20 ((x1 : Int32).toNatClampNeg)))), .int (x4 - (x7 * (I 24 ((x1 : Int32).toNatClampNeg)))), .int x5, .null, .null] [] (hp (pm_up I 26 ((x1 : Int32).toNatClampNeg) x7) J (pm_RT pa pb ga)) (fun r h' => h'.1 = 176 ∧ Px (k + 1) 176 m_Ro_reaches 136 [.ref 19, .int x1, .int x2, .int x3, .int x4, .int x5, .int x6, .int x7] (r.toList ++ []) h' Q)))) : Px (k + 1) 176 m_Ro_reaches 87 [.ref 19, .int x1, .int x2, .int x3, .int x4, .int x5, .int x6, .int x7] [] (hp I J (pm_RT pa pb ga)) Q := by
  refine x_l 89 rfl rfl rfl ?_
  refine x_b 92 rfl rfl rfl (fun c => ?_) (fun c => ?_)
  · have h := h.1 c
    refine z_k 148 0 rfl (by decide) rfl ?_
    exact x_ri rfl (Or.inr ⟨rfl, Or.inl rfl⟩) h
  · have h := h.2 c
    refine x_l 93 rfl rfl rfl ?_
    refine z_gf 96 (.ref 26) rfl ⟨rfl, rfl, rfl⟩ rfl rfl ?_
    refine x_l 97 rfl rfl rfl ?_
    refine x_l 99 rfl rfl rfl ?_
    have h1 := h.1
    have h := h.2
    refine z_is 100 4 rfl ⟨rfl, rfl, rfl⟩ rfl h1 rfl ?_
    refine x_l 101 rfl rfl rfl ?_
    refine x_l 102 rfl rfl rfl ?_
    refine z_k 103 1 rfl (by decide) rfl ?_
    refine x_s 104 rfl rfl rfl ?_
    refine x_l 105 rfl rfl rfl ?_
    refine x_l 107 rfl rfl rfl ?_
    refine x_s 108 rfl rfl rfl ?_
    refine x_l 109 rfl rfl rfl ?_
    refine x_l 111 rfl rfl rfl ?_
    refine x_l 112 rfl rfl rfl ?_
    refine z_gf 115 (.ref 20) rfl ⟨rfl, rfl, rfl⟩ rfl rfl ?_
    refine x_l 116 rfl rfl rfl ?_
    have h1 := h.1
    have h := h.2
    refine z_il 117 4 rfl ⟨rfl, rfl, rfl⟩ rfl h1 rfl ?_
    refine x_s 118 rfl rfl rfl ?_
    refine x_s 119 rfl rfl rfl ?_
    refine x_l 121 rfl rfl rfl ?_
    refine x_l 123 rfl rfl rfl ?_
    refine x_l 124 rfl rfl rfl ?_
    refine z_gf 127 (.ref 24) rfl ⟨rfl, rfl, rfl⟩ rfl rfl ?_
    refine x_l 128 rfl rfl rfl ?_
    have h1 := h.1
    have h := h.2
    refine z_il 129 4 rfl ⟨rfl, rfl, rfl⟩ rfl h1 rfl ?_
    refine x_s 130 rfl rfl rfl ?_
    refine x_s 131 rfl rfl rfl ?_
    refine x_l 133 rfl rfl rfl ?_
    exact z_cv (As := [.int (x1 + (1 : Int32)), .int (x2 - x7), .int (x3 - (x7 * (I 20 ((x1 : Int32).toNatClampNeg)))), .int (x4 - (x7 * (I 24 ((x1 : Int32).toNatClampNeg)))), .int x5]) (rest := []) (b := 19) rfl at_Ro_reaches rfl rfl (Nat.le_of_ble_eq_true rfl) (Nat.le_of_ble_eq_true rfl) ⟨rfl, rfl, rfl⟩ (by decide) rfl h

theorem bk_Ro_reaches_136 {k : Nat} {pa pb : Nat} {ga : Nat → Nat} {I : pm_II} {J : pm_JJ} {Q : Option Value → pm_H → Prop} {x1 : Int32} {x2 : Int32} {x3 : Int32} {x4 : Int32} {x5 : Int32} {x6 : Int32} {x7 : Int32} {s0 : Int32} (h : ((s0 = 0 → Px (k + 1) 176 m_Ro_reaches 87 [.ref 19, .int x1, .int x2, .int x3, .int x4, .int x5, .int x6, .int (x7 + Int32.ofInt (-1))] [] (hp I J (pm_RT pa pb ga)) Q) ∧ (¬ (s0 = 0) → Q (some (.int 1)) (hp I J (pm_RT pa pb ga))))) : Px (k + 1) 176 m_Ro_reaches 136 [.ref 19, .int x1, .int x2, .int x3, .int x4, .int x5, .int x6, .int x7] [.int s0] (hp I J (pm_RT pa pb ga)) Q := by
  refine x_b 139 rfl rfl rfl (fun c => ?_) (fun c => ?_)
  · have h := h.1 c
    refine x_t 144 rfl rfl rfl ?_
    refine x_g rfl ?_
    exact h
  · have h := h.2 c
    refine z_k 140 1 rfl (by decide) rfl ?_
    exact x_ri rfl (Or.inr ⟨rfl, Or.inr rfl⟩) h

theorem bk_Ro_mostOf_0 {k : Nat} {pa pb : Nat} {ga : Nat → Nat} {I : pm_II} {J : pm_JJ} {Q : Option Value → pm_H → Prop} {x1 : Int32} {x2 : Int32} {x3 : Int32} (h : vp_in x1 4 ∧ Px k 176 m_Jm_min_II 0 [.int (I 25 ((x1 : Int32).toNatClampNeg)), .int x2] [] (hp I J (pm_RT pa pb ga)) (fun r h' => h'.1 = 176 ∧ Px (k + 1) 176 m_Ro_mostOf 10 [.ref 19, .int x1, .int x2, .int x3, .null] (r.toList ++ []) h' Q)) : Px (k + 1) 176 m_Ro_mostOf 0 [.ref 19, .int x1, .int x2, .int x3, .null] [] (hp I J (pm_RT pa pb ga)) Q := by
  refine x_l 1 rfl rfl rfl ?_
  refine z_gf 4 (.ref 25) rfl ⟨rfl, rfl, rfl⟩ rfl rfl ?_
  refine x_l 5 rfl rfl rfl ?_
  have h1 := h.1
  have h := h.2
  refine z_il 6 4 rfl ⟨rfl, rfl, rfl⟩ rfl h1 rfl ?_
  refine x_l 7 rfl rfl rfl ?_
  exact z_cs (As := [.int (I 25 ((x1 : Int32).toNatClampNeg)), .int x2]) (rest := []) rfl at_Jm_min_II rfl rfl (Nat.le_of_ble_eq_true rfl) (Nat.le_of_ble_eq_true rfl) rfl h

theorem bk_Ro_mostOf_10 {k : Nat} {pa pb : Nat} {ga : Nat → Nat} {I : pm_II} {J : pm_JJ} {Q : Option Value → pm_H → Prop} {x1 : Int32} {x2 : Int32} {x3 : Int32} {s0 : Int32} (h : vp_in x1 4 ∧ (((I 20 ((x1 : Int32).toNatClampNeg)) ≤ 0 → Q (some (.int 0)) (hp I J (pm_RT pa pb ga))) ∧ (¬ ((I 20 ((x1 : Int32).toNatClampNeg)) ≤ 0) → vp_in x1 4 ∧ ¬ (I 20 ((x1 : Int32).toNatClampNeg)) = 0 ∧ Px k 176 m_Jm_min_II 0 [.int s0, .int (x3 / (I 20 ((x1 : Int32).toNatClampNeg)))] [] (hp I J (pm_RT pa pb ga)) (fun r h' => h'.1 = 176 ∧ Px (k + 1) 176 m_Ro_mostOf 34 [.ref 19, .int x1, .int x2, .int x3, .int s0] (r.toList ++ []) h' Q)))) : Px (k + 1) 176 m_Ro_mostOf 10 [.ref 19, .int x1, .int x2, .int x3, .null] [.int s0] (hp I J (pm_RT pa pb ga)) Q := by
  refine x_t 12 rfl rfl rfl ?_
  refine x_l 13 rfl rfl rfl ?_
  refine z_gf 16 (.ref 20) rfl ⟨rfl, rfl, rfl⟩ rfl rfl ?_
  refine x_l 17 rfl rfl rfl ?_
  have h1 := h.1
  have h := h.2
  refine z_il 18 4 rfl ⟨rfl, rfl, rfl⟩ rfl h1 rfl ?_
  refine x_b 21 rfl rfl rfl (fun c => ?_) (fun c => ?_)
  · have h := h.1 c
    refine z_k 38 0 rfl (by decide) rfl ?_
    exact x_ri rfl (Or.inl rfl) h
  · have h := h.2 c
    refine x_l 23 rfl rfl rfl ?_
    refine x_l 24 rfl rfl rfl ?_
    refine x_l 25 rfl rfl rfl ?_
    refine z_gf 28 (.ref 20) rfl ⟨rfl, rfl, rfl⟩ rfl rfl ?_
    refine x_l 29 rfl rfl rfl ?_
    have h1 := h.1
    have h := h.2
    refine z_il 30 4 rfl ⟨rfl, rfl, rfl⟩ rfl h1 rfl ?_
    have h0 := h.1
    have h := h.2
    refine x_dv 31 rfl h0 rfl ?_
    exact z_cs (As := [.int s0, .int (x3 / (I 20 ((x1 : Int32).toNatClampNeg)))]) (rest := []) rfl at_Jm_min_II rfl rfl (Nat.le_of_ble_eq_true rfl) (Nat.le_of_ble_eq_true rfl) rfl h

theorem bk_Ro_mostOf_34 {k : Nat} {pa pb : Nat} {ga : Nat → Nat} {I : pm_II} {J : pm_JJ} {Q : Option Value → pm_H → Prop} {x1 : Int32} {x2 : Int32} {x3 : Int32} {x4 : Int32} {s0 : Int32} (h : Q (some (.int s0)) (hp I J (pm_RT pa pb ga))) : Px (k + 1) 176 m_Ro_mostOf 34 [.ref 19, .int x1, .int x2, .int x3, .int x4] [.int s0] (hp I J (pm_RT pa pb ga)) Q := by
  refine x_g rfl ?_
  exact x_ri rfl (Or.inl rfl) h

theorem bk_Ro_makePlan_0 {k : Nat} {pa pb : Nat} {ga : Nat → Nat} {I : pm_II} {J : pm_JJ} {Q : Option Value → pm_H → Prop} (h : Px k 176 m_Ro_wholeState 0 [.ref 19, .null, .null] [] (hp I J (pm_RT pa pb ga)) (fun r h' => h'.1 = 176 ∧ Px (k + 1) 176 m_Ro_makePlan 4 [.ref 19, .null, .null] (r.toList ++ []) h' Q)) : Px (k + 1) 176 m_Ro_makePlan 0 [.ref 19, .null, .null] [] (hp I J (pm_RT pa pb ga)) Q := by
  refine x_l 1 rfl rfl rfl ?_
  exact z_cv (As := []) (rest := []) (b := 19) rfl at_Ro_wholeState rfl rfl (Nat.le_of_ble_eq_true rfl) (Nat.le_of_ble_eq_true rfl) ⟨rfl, rfl, rfl⟩ (by decide) rfl h

theorem bk_Ro_makePlan_4 {k : Nat} {pa pb : Nat} {ga : Nat → Nat} {I : pm_II} {J : pm_JJ} {Q : Option Value → pm_H → Prop} {s0 : Int32} (h : Px (k + 1) 176 m_Ro_makePlan 7 [.ref 19, .int s0, .int 0] [] (hp I J (pm_RT pa pb ga)) Q) : Px (k + 1) 176 m_Ro_makePlan 4 [.ref 19, .null, .null] [.int s0] (hp I J (pm_RT pa pb ga)) Q := by
  refine x_t 5 rfl rfl rfl ?_
  refine z_k 6 0 rfl (by decide) rfl ?_
  refine x_t 7 rfl rfl rfl ?_
  exact h

theorem bk_Ro_makePlan_7 {k : Nat} {pa pb : Nat} {ga : Nat → Nat} {I : pm_II} {J : pm_JJ} {Q : Option Value → pm_H → Prop} {x1 : Int32} {x2 : Int32} (h : ((4 ≤ x2 → Px (k + 1) 176 m_Ro_makePlan 35 [.ref 19, .int x1, .int x2] [] (hp (pm_up I 19 12 0) J (pm_RT pa pb ga)) Q) ∧ (¬ (4 ≤ x2) → vp_in x2 4 ∧ vp_in x2 4 ∧ Px (k + 1) 176 m_Ro_makePlan 7 [.ref 19, .int x1, .int (x2 + Int32.ofInt 1)] [] (hp (pm_up I 25 ((x2 : Int32).toNatClampNeg) (I 21 ((x2 : Int32).toNatClampNeg))) J (pm_RT pa pb ga)) Q))) : Px (k + 1) 176 m_Ro_makePlan 7 [.ref 19, .int x1, .int x2] [] (hp I J (pm_RT pa pb ga)) Q := by
  refine x_l 8 rfl rfl rfl ?_
  refine z_k 9 4 rfl (by decide) rfl ?_
  refine x_b 12 rfl rfl rfl (fun c => ?_) (fun c => ?_)
  · have h := h.1 c
    refine x_l 31 rfl rfl rfl ?_
    refine z_k 32 0 rfl (by decide) rfl ?_
    refine z_pi 35 rfl (Or.inl rfl) rfl (fun z => by cases z) ⟨rfl, rfl, rfl⟩ rfl ?_
    exact h
  · have h := h.2 c
    refine x_l 13 rfl rfl rfl ?_
    refine z_gf 16 (.ref 25) rfl ⟨rfl, rfl, rfl⟩ rfl rfl ?_
    refine x_l 17 rfl rfl rfl ?_
    refine x_l 18 rfl rfl rfl ?_
    refine z_gf 21 (.ref 21) rfl ⟨rfl, rfl, rfl⟩ rfl rfl ?_
    refine x_l 22 rfl rfl rfl ?_
    have h1 := h.1
    have h := h.2
    refine z_il 23 4 rfl ⟨rfl, rfl, rfl⟩ rfl h1 rfl ?_
    have h1 := h.1
    have h := h.2
    refine z_is 24 4 rfl ⟨rfl, rfl, rfl⟩ rfl h1 rfl ?_
    refine x_t 27 rfl rfl rfl ?_
    refine x_g rfl ?_
    exact h

theorem bk_Ro_makePlan_35 {k : Nat} {pa pb : Nat} {ga : Nat → Nat} {I : pm_II} {J : pm_JJ} {Q : Option Value → pm_H → Prop} {x1 : Int32} {x2 : Int32} (h : ((x1 ≤ 0 → Px (k + 1) 176 m_Ro_makePlan 154 [.ref 19, .int x1, .int x2] [] (hp I J (pm_RT pa pb ga)) Q) ∧ (¬ (x1 ≤ 0) → ((625 ≤ x1 → Px (k + 1) 176 m_Ro_makePlan 154 [.ref 19, .int x1, .int x2] [] (hp I J (pm_RT pa pb ga)) Q) ∧ (¬ (625 ≤ x1) → ((16 ≤ (I 19 12) → Px (k + 1) 176 m_Ro_makePlan 154 [.ref 19, .int x1, .int x2] [] (hp I J (pm_RT pa pb ga)) Q) ∧ (¬ (16 ≤ (I 19 12)) → vp_in x1 625 ∧ Px k 176 m_Ro_reaches 0 [.ref 19, .int 0, .int (I 19 10), .int (I 19 9), .int x1, .int ((I 27 ((x1 : Int32).toNatClampNeg)) - (1 : Int32)), .null, .null] [] (hp I J (pm_RT pa pb ga)) (fun r h' => h'.1 = 176 ∧ Px (k + 1) 176 m_Ro_makePlan 77 [.ref 19, .int x1, .int x2] (r.toList ++ []) h' Q)))))))) : Px (k + 1) 176 m_Ro_makePlan 35 [.ref 19, .int x1, .int x2] [] (hp I J (pm_RT pa pb ga)) Q := by
  refine x_l 36 rfl rfl rfl ?_
  refine x_b 39 rfl rfl rfl (fun c => ?_) (fun c => ?_)
  · have h := h.1 c
    exact h
  · have h := h.2 c
    refine x_l 40 rfl rfl rfl ?_
    refine z_k 43 625 rfl (by decide) rfl ?_
    refine x_b 46 rfl rfl rfl (fun c => ?_) (fun c => ?_)
    · have h := h.1 c
      exact h
    · have h := h.2 c
      refine x_l 47 rfl rfl rfl ?_
      refine z_gf 50 (.int (I 19 12)) rfl ⟨rfl, rfl, rfl⟩ rfl rfl ?_
      refine z_k 52 16 rfl (by decide) rfl ?_
      refine x_b 55 rfl rfl rfl (fun c => ?_) (fun c => ?_)
      · have h := h.1 c
        exact h
      · have h := h.2 c
        refine x_l 56 rfl rfl rfl ?_
        refine z_k 57 0 rfl (by decide) rfl ?_
        refine x_l 58 rfl rfl rfl ?_
        refine z_gf 61 (.int (I 19 10)) rfl ⟨rfl, rfl, rfl⟩ rfl rfl ?_
        refine x_l 62 rfl rfl rfl ?_
        refine z_gf 65 (.int (I 19 9)) rfl ⟨rfl, rfl, rfl⟩ rfl rfl ?_
        refine x_l 66 rfl rfl rfl ?_
        refine x_l 67 rfl rfl rfl ?_
        refine z_gf 70 (.ref 27) rfl ⟨rfl, rfl, rfl⟩ rfl rfl ?_
        refine x_l 71 rfl rfl rfl ?_
        have h1 := h.1
        have h := h.2
        refine z_il 72 625 rfl ⟨rfl, rfl, rfl⟩ rfl h1 rfl ?_
        refine z_k 73 1 rfl (by decide) rfl ?_
        refine x_s 74 rfl rfl rfl ?_
        exact z_cv (As := [.int 0, .int (I 19 10), .int (I 19 9), .int x1, .int ((I 27 ((x1 : Int32).toNatClampNeg)) - (1 : Int32))]) (rest := []) (b := 19) rfl at_Ro_reaches rfl rfl (Nat.le_of_ble_eq_true rfl) (Nat.le_of_ble_eq_true rfl) ⟨rfl, rfl, rfl⟩ (by decide) rfl h

theorem bk_Ro_makePlan_77 {k : Nat} {pa pb : Nat} {ga : Nat → Nat} {I : pm_II} {J : pm_JJ} {Q : Option Value → pm_H → Prop} {x1 : Int32} {x2 : Int32} {s0 : Int32} (h : Px (k + 1) 176 m_Ro_makePlan 80 [.ref 19, .int x1, .int 0] [] (hp I J (pm_RT pa pb ga)) Q) : Px (k + 1) 176 m_Ro_makePlan 77 [.ref 19, .int x1, .int x2] [.int s0] (hp I J (pm_RT pa pb ga)) Q := by
  refine x_s 78 rfl rfl rfl ?_
  refine z_k 79 0 rfl (by decide) rfl ?_
  refine x_t 80 rfl rfl rfl ?_
  exact h

theorem bk_Ro_makePlan_80 {k : Nat} {pa pb : Nat} {ga : Nat → Nat} {I : pm_II} {J : pm_JJ} {Q : Option Value → pm_H → Prop} {x1 : Int32} {x2 : Int32} (h : ((4 ≤ x2 → Px (k + 1) 176 m_Ro_makePlan 35 [.ref 19, .int x1, .int x2] [] (hp (pm_up I 19 12 ((I 19 12) + (1 : Int32))) J (pm_RT pa pb ga)) Q) ∧ (¬ (4 ≤ x2) → vp_in x2 4 ∧ vp_in (((I 19 12) * (4 : Int32)) + x2) 64 ∧ vp_in x2 4 ∧ vp_in x2 4 ∧ vp_in x2 4 ∧ vp_in x2 4 ∧ vp_in x2 4 ∧ Px (k + 1) 176 m_Ro_makePlan 80 [.ref 19, .int (x1 - ((I 26 ((x2 : Int32).toNatClampNeg)) * (I 24 ((x2 : Int32).toNatClampNeg)))), .int (x2 + Int32.ofInt 1)] [] (hp (pm_up (pm_up I 28 (((((I 19 12) * (4 : Int32)) + x2) : Int32).toNatClampNeg) (I 26 ((x2 : Int32).toNatClampNeg))) 25 ((x2 : Int32).toNatClampNeg) ((I 25 ((x2 : Int32).toNatClampNeg)) - (I 26 ((x2 : Int32).toNatClampNeg)))) J (pm_RT pa pb ga)) Q))) : Px (k + 1) 176 m_Ro_makePlan 80 [.ref 19, .int x1, .int x2] [] (hp I J (pm_RT pa pb ga)) Q := by
  refine x_l 81 rfl rfl rfl ?_
  refine z_k 82 4 rfl (by decide) rfl ?_
  refine x_b 85 rfl rfl rfl (fun c => ?_) (fun c => ?_)
  · have h := h.1 c
    refine x_l 142 rfl rfl rfl ?_
    refine x_s 143 rfl rfl rfl ?_
    refine z_gf 146 (.int (I 19 12)) rfl ⟨rfl, rfl, rfl⟩ rfl rfl ?_
    refine z_k 147 1 rfl (by decide) rfl ?_
    refine x_s 148 rfl rfl rfl ?_
    refine z_pi 151 rfl (Or.inl rfl) rfl (fun z => by cases z) ⟨rfl, rfl, rfl⟩ rfl ?_
    refine x_g rfl ?_
    exact h
  · have h := h.2 c
    refine x_l 86 rfl rfl rfl ?_
    refine z_gf 89 (.ref 28) rfl ⟨rfl, rfl, rfl⟩ rfl rfl ?_
    refine x_l 90 rfl rfl rfl ?_
    refine z_gf 93 (.int (I 19 12)) rfl ⟨rfl, rfl, rfl⟩ rfl rfl ?_
    refine z_k 94 4 rfl (by decide) rfl ?_
    refine x_s 95 rfl rfl rfl ?_
    refine x_l 96 rfl rfl rfl ?_
    refine x_s 97 rfl rfl rfl ?_
    refine x_l 98 rfl rfl rfl ?_
    refine z_gf 101 (.ref 26) rfl ⟨rfl, rfl, rfl⟩ rfl rfl ?_
    refine x_l 102 rfl rfl rfl ?_
    have h1 := h.1
    have h := h.2
    refine z_il 103 4 rfl ⟨rfl, rfl, rfl⟩ rfl h1 rfl ?_
    have h1 := h.1
    have h := h.2
    refine z_is 104 64 rfl ⟨rfl, rfl, rfl⟩ rfl h1 rfl ?_
    refine x_l 105 rfl rfl rfl ?_
    refine z_gf 108 (.ref 25) rfl ⟨rfl, rfl, rfl⟩ rfl rfl ?_
    refine x_l 109 rfl rfl rfl ?_
    refine x_s 110 rfl rfl rfl ?_
    have h1 := h.1
    have h := h.2
    refine z_il 111 4 rfl ⟨rfl, rfl, rfl⟩ rfl h1 rfl ?_
    refine x_l 112 rfl rfl rfl ?_
    refine z_gf 115 (.ref 26) rfl ⟨rfl, rfl, rfl⟩ rfl rfl ?_
    refine x_l 116 rfl rfl rfl ?_
    have h1 := h.1
    have h := h.2
    refine z_il 117 4 rfl ⟨rfl, rfl, rfl⟩ rfl h1 rfl ?_
    refine x_s 118 rfl rfl rfl ?_
    have h1 := h.1
    have h := h.2
    refine z_is 119 4 rfl ⟨rfl, rfl, rfl⟩ rfl h1 rfl ?_
    refine x_l 120 rfl rfl rfl ?_
    refine x_l 121 rfl rfl rfl ?_
    refine z_gf 124 (.ref 26) rfl ⟨rfl, rfl, rfl⟩ rfl rfl ?_
    refine x_l 125 rfl rfl rfl ?_
    have h1 := h.1
    have h := h.2
    refine z_il 126 4 rfl ⟨rfl, rfl, rfl⟩ rfl h1 rfl ?_
    refine x_l 127 rfl rfl rfl ?_
    refine z_gf 130 (.ref 24) rfl ⟨rfl, rfl, rfl⟩ rfl rfl ?_
    refine x_l 131 rfl rfl rfl ?_
    have h1 := h.1
    have h := h.2
    refine z_il 132 4 rfl ⟨rfl, rfl, rfl⟩ rfl h1 rfl ?_
    refine x_s 133 rfl rfl rfl ?_
    refine x_s 134 rfl rfl rfl ?_
    refine x_t 135 rfl rfl rfl ?_
    refine x_t 138 rfl rfl rfl ?_
    refine x_g rfl ?_
    exact h

theorem bk_Ro_makePlan_154 {k : Nat} {pa pb : Nat} {ga : Nat → Nat} {I : pm_II} {J : pm_JJ} {Q : Option Value → pm_H → Prop} {x1 : Int32} {x2 : Int32} (h : Q none (hp I J (pm_RT pa pb ga))) : Px (k + 1) 176 m_Ro_makePlan 154 [.ref 19, .int x1, .int x2] [] (hp I J (pm_RT pa pb ga)) Q := by
  exact x_rv rfl rfl h

theorem bk_Ro_tell_0 {k : Nat} {pa pb : Nat} {ga : Nat → Nat} {I : pm_II} {J : pm_JJ} {Q : Option Value → pm_H → Prop} {x1 : Int32} {x2 : Int32} (h : ((x1 < 0 → Q (some (.int (-1))) (hp I J (pm_RT pa pb ga))) ∧ (¬ (x1 < 0) → (((I 19 12) ≤ x1 → Q (some (.int (-1))) (hp I J (pm_RT pa pb ga))) ∧ (¬ ((I 19 12) ≤ x1) → ((x2 < (-1) → Q (some (.int (-1))) (hp I J (pm_RT pa pb ga))) ∧ (¬ (x2 < (-1)) → ((x2 < (I 19 11) → ((¬ x2 = (-1) → vp_in ((x1 * (4 : Int32)) + x2) 64 ∧ Q (some (.int (I 28 ((((x1 * (4 : Int32)) + x2) : Int32).toNatClampNeg)))) (hp I J (pm_RT pa pb ga))) ∧ (¬ (¬ x2 = (-1)) → Px k 176 m_Ro_lostOf 0 [.ref 19, .int x1, .null, .null] [] (hp I J (pm_RT pa pb ga)) (fun r h' => h'.1 = 176 ∧ Px (k + 1) 176 m_Ro_tell 37 [.ref 19, .int x1, .int x2] (r.toList ++ []) h' Q)))) ∧ (¬ (x2 < (I 19 11)) → Q (some (.int (-1))) (hp I J (pm_RT pa pb ga))))))))))) : Px (k + 1) 176 m_Ro_tell 0 [.ref 19, .int x1, .int x2] [] (hp I J (pm_RT pa pb ga)) Q := by
  refine x_l 1 rfl rfl rfl ?_
  refine x_b 4 rfl rfl rfl (fun c => ?_) (fun c => ?_)
  · have h := h.1 c
    refine z_k 26 (-1) rfl (by decide) rfl ?_
    exact x_ri rfl (Or.inl rfl) h
  · have h := h.2 c
    refine x_l 5 rfl rfl rfl ?_
    refine x_l 6 rfl rfl rfl ?_
    refine z_gf 9 (.int (I 19 12)) rfl ⟨rfl, rfl, rfl⟩ rfl rfl ?_
    refine x_b 12 rfl rfl rfl (fun c => ?_) (fun c => ?_)
    · have h := h.1 c
      refine z_k 26 (-1) rfl (by decide) rfl ?_
      exact x_ri rfl (Or.inl rfl) h
    · have h := h.2 c
      refine x_l 13 rfl rfl rfl ?_
      refine z_k 14 (-1) rfl (by decide) rfl ?_
      refine x_b 17 rfl rfl rfl (fun c => ?_) (fun c => ?_)
      · have h := h.1 c
        refine z_k 26 (-1) rfl (by decide) rfl ?_
        exact x_ri rfl (Or.inl rfl) h
      · have h := h.2 c
        refine x_l 18 rfl rfl rfl ?_
        refine x_l 19 rfl rfl rfl ?_
        refine z_gf 22 (.int (I 19 11)) rfl ⟨rfl, rfl, rfl⟩ rfl rfl ?_
        refine x_b 25 rfl rfl rfl (fun c => ?_) (fun c => ?_)
        · have h := h.1 c
          refine x_l 28 rfl rfl rfl ?_
          refine z_k 29 (-1) rfl (by decide) rfl ?_
          refine x_b 32 rfl rfl rfl (fun c => ?_) (fun c => ?_)
          · have h := h.1 c
            refine x_l 41 rfl rfl rfl ?_
            refine z_gf 44 (.ref 28) rfl ⟨rfl, rfl, rfl⟩ rfl rfl ?_
            refine x_l 45 rfl rfl rfl ?_
            refine z_k 46 4 rfl (by decide) rfl ?_
            refine x_s 47 rfl rfl rfl ?_
            refine x_l 48 rfl rfl rfl ?_
            refine x_s 49 rfl rfl rfl ?_
            have h1 := h.1
            have h := h.2
            refine z_il 50 64 rfl ⟨rfl, rfl, rfl⟩ rfl h1 rfl ?_
            exact x_ri rfl (Or.inl rfl) h
          · have h := h.2 c
            refine x_l 33 rfl rfl rfl ?_
            refine x_l 34 rfl rfl rfl ?_
            exact z_cv (As := [.int x1]) (rest := []) (b := 19) rfl at_Ro_lostOf rfl rfl (Nat.le_of_ble_eq_true rfl) (Nat.le_of_ble_eq_true rfl) ⟨rfl, rfl, rfl⟩ (by decide) rfl h
        · have h := h.2 c
          refine z_k 26 (-1) rfl (by decide) rfl ?_
          exact x_ri rfl (Or.inl rfl) h

theorem bk_Ro_tell_37 {k : Nat} {pa pb : Nat} {ga : Nat → Nat} {I : pm_II} {J : pm_JJ} {Q : Option Value → pm_H → Prop} {x1 : Int32} {x2 : Int32} {s0 : Int32} (h : Q (some (.int s0)) (hp I J (pm_RT pa pb ga))) : Px (k + 1) 176 m_Ro_tell 37 [.ref 19, .int x1, .int x2] [.int s0] (hp I J (pm_RT pa pb ga)) Q := by
  refine x_g rfl ?_
  exact x_ri rfl (Or.inl rfl) h

theorem bk_Ro_lostOf_0 {k : Nat} {pa pb : Nat} {ga : Nat → Nat} {I : pm_II} {J : pm_JJ} {Q : Option Value → pm_H → Prop} {x1 : Int32} (h : Px k 176 m_Ro_lostOf 7 [.ref 19, .int x1, .int (I 19 9), .int 0] [] (hp I J (pm_RT pa pb ga)) Q) : Px k 176 m_Ro_lostOf 0 [.ref 19, .int x1, .null, .null] [] (hp I J (pm_RT pa pb ga)) Q := by
  refine x_l 1 rfl rfl rfl ?_
  refine z_gf 4 (.int (I 19 9)) rfl ⟨rfl, rfl, rfl⟩ rfl rfl ?_
  refine x_t 5 rfl rfl rfl ?_
  refine z_k 6 0 rfl (by decide) rfl ?_
  refine x_t 7 rfl rfl rfl ?_
  exact h

theorem bk_Ro_lostOf_7 {k : Nat} {pa pb : Nat} {ga : Nat → Nat} {I : pm_II} {J : pm_JJ} {Q : Option Value → pm_H → Prop} {x1 : Int32} {x2 : Int32} {x3 : Int32} (h : ((4 ≤ x3 → Q (some (.int x2)) (hp I J (pm_RT pa pb ga))) ∧ (¬ (4 ≤ x3) → vp_in ((x1 * (4 : Int32)) + x3) 64 ∧ vp_in x3 4 ∧ Px k 176 m_Ro_lostOf 7 [.ref 19, .int x1, .int (x2 - ((I 28 ((((x1 * (4 : Int32)) + x3) : Int32).toNatClampNeg)) * (I 20 ((x3 : Int32).toNatClampNeg)))), .int (x3 + Int32.ofInt 1)] [] (hp I J (pm_RT pa pb ga)) Q))) : Px k 176 m_Ro_lostOf 7 [.ref 19, .int x1, .int x2, .int x3] [] (hp I J (pm_RT pa pb ga)) Q := by
  refine x_l 8 rfl rfl rfl ?_
  refine z_k 9 4 rfl (by decide) rfl ?_
  refine x_b 12 rfl rfl rfl (fun c => ?_) (fun c => ?_)
  · have h := h.1 c
    refine x_l 39 rfl rfl rfl ?_
    exact x_ri rfl (Or.inl rfl) h
  · have h := h.2 c
    refine x_l 13 rfl rfl rfl ?_
    refine x_l 14 rfl rfl rfl ?_
    refine z_gf 17 (.ref 28) rfl ⟨rfl, rfl, rfl⟩ rfl rfl ?_
    refine x_l 18 rfl rfl rfl ?_
    refine z_k 19 4 rfl (by decide) rfl ?_
    refine x_s 20 rfl rfl rfl ?_
    refine x_l 21 rfl rfl rfl ?_
    refine x_s 22 rfl rfl rfl ?_
    have h1 := h.1
    have h := h.2
    refine z_il 23 64 rfl ⟨rfl, rfl, rfl⟩ rfl h1 rfl ?_
    refine x_l 24 rfl rfl rfl ?_
    refine z_gf 27 (.ref 20) rfl ⟨rfl, rfl, rfl⟩ rfl rfl ?_
    refine x_l 28 rfl rfl rfl ?_
    have h1 := h.1
    have h := h.2
    refine z_il 29 4 rfl ⟨rfl, rfl, rfl⟩ rfl h1 rfl ?_
    refine x_s 30 rfl rfl rfl ?_
    refine x_s 31 rfl rfl rfl ?_
    refine x_t 32 rfl rfl rfl ?_
    refine x_t 35 rfl rfl rfl ?_
    refine x_g rfl ?_
    exact h

theorem bk_Fo_takeText_0 {k : Nat} {pa pb : Nat} {ga : Nat → Nat} {I : pm_II} {J : pm_JJ} {Q : Option Value → pm_H → Prop} (h : Px k 176 m_Ta_readKeyword 0 [.ref 17, .ref 5] [] (hp I J (pm_RT pa pb ga)) (fun r h' => h'.1 = 176 ∧ Px (k + 1) 176 m_Fo_takeText 6 [.ref 29, .ref 17, .null, .null, .null] (r.toList ++ []) h' Q)) : Px (k + 1) 176 m_Fo_takeText 0 [.ref 29, .ref 17, .null, .null, .null] [] (hp I J (pm_RT pa pb ga)) Q := by
  refine x_l 1 rfl rfl rfl ?_
  refine x_ls 3 rfl (Or.inl rfl) rfl ?_
  exact z_cv (As := [.ref 5]) (rest := []) (b := 17) rfl at_Ta_readKeyword rfl rfl (Nat.le_of_ble_eq_true rfl) (Nat.le_of_ble_eq_true rfl) ⟨rfl, rfl, rfl⟩ (by decide) rfl h

theorem bk_Fo_takeText_6 {k : Nat} {pa pb : Nat} {ga : Nat → Nat} {I : pm_II} {J : pm_JJ} {Q : Option Value → pm_H → Prop} (h : Px k 176 m_Fo_readSide 0 [.ref 29, .ref 17, .null] [] (hp I J (pm_RT pa pb ga)) (fun r h' => h'.1 = 176 ∧ Px (k + 1) 176 m_Fo_takeText 11 [.ref 29, .ref 17, .null, .null, .null] (r.toList ++ []) h' Q)) : Px (k + 1) 176 m_Fo_takeText 6 [.ref 29, .ref 17, .null, .null, .null] [] (hp I J (pm_RT pa pb ga)) Q := by
  refine x_l 7 rfl rfl rfl ?_
  refine x_l 8 rfl rfl rfl ?_
  exact z_cv (As := [.ref 17]) (rest := []) (b := 29) rfl at_Fo_readSide rfl rfl (Nat.le_of_ble_eq_true rfl) (Nat.le_of_ble_eq_true rfl) ⟨rfl, rfl, rfl⟩ (by decide) rfl h

theorem bk_Fo_takeText_11 {k : Nat} {pa pb : Nat} {ga : Nat → Nat} {I : pm_II} {J : pm_JJ} {Q : Option Value → pm_H → Prop} {s0 : Int32} (h : Px k 176 m_Fo_readSide 0 [.ref 29, .ref 17, .null] [] (hp I J (pm_RT pa pb ga)) (fun r h' => h'.1 = 176 ∧ Px (k + 1) 176 m_Fo_takeText 17 [.ref 29, .ref 17, .int s0, .null, .null] (r.toList ++ []) h' Q)) : Px (k + 1) 176 m_Fo_takeText 11 [.ref 29, .ref 17, .null, .null, .null] [.int s0] (hp I J (pm_RT pa pb ga)) Q := by
  refine x_t 12 rfl rfl rfl ?_
  refine x_l 13 rfl rfl rfl ?_
  refine x_l 14 rfl rfl rfl ?_
  exact z_cv (As := [.ref 17]) (rest := []) (b := 29) rfl at_Fo_readSide rfl rfl (Nat.le_of_ble_eq_true rfl) (Nat.le_of_ble_eq_true rfl) ⟨rfl, rfl, rfl⟩ (by decide) rfl h

theorem bk_Fo_takeText_17 {k : Nat} {pa pb : Nat} {ga : Nat → Nat} {I : pm_II} {J : pm_JJ} {Q : Option Value → pm_H → Prop} {x2 : Int32} {s0 : Int32} (h : Px k 176 m_Ta_expect 0 [.ref 17, .int 10] [] (hp I J (pm_RT pa pb ga)) (fun r h' => h'.1 = 176 ∧ Px (k + 1) 176 m_Fo_takeText 24 [.ref 29, .ref 17, .int x2, .int s0, .null] (r.toList ++ []) h' Q)) : Px (k + 1) 176 m_Fo_takeText 17 [.ref 29, .ref 17, .int x2, .null, .null] [.int s0] (hp I J (pm_RT pa pb ga)) Q := by
  refine x_t 18 rfl rfl rfl ?_
  refine x_l 19 rfl rfl rfl ?_
  refine z_k 21 10 rfl (by decide) rfl ?_
  exact z_cv (As := [.int 10]) (rest := []) (b := 17) rfl at_Ta_expect rfl rfl (Nat.le_of_ble_eq_true rfl) (Nat.le_of_ble_eq_true rfl) ⟨rfl, rfl, rfl⟩ (by decide) rfl h

theorem bk_Fo_takeText_24 {k : Nat} {pa pb : Nat} {ga : Nat → Nat} {I : pm_II} {J : pm_JJ} {Q : Option Value → pm_H → Prop} {x2 : Int32} {x3 : Int32} (h : Px k 176 m_Ta_readKeyword 0 [.ref 17, .ref 6] [] (hp I J (pm_RT pa pb ga)) (fun r h' => h'.1 = 176 ∧ Px (k + 1) 176 m_Fo_takeText 30 [.ref 29, .ref 17, .int x2, .int x3, .null] (r.toList ++ []) h' Q)) : Px (k + 1) 176 m_Fo_takeText 24 [.ref 29, .ref 17, .int x2, .int x3, .null] [] (hp I J (pm_RT pa pb ga)) Q := by
  refine x_l 25 rfl rfl rfl ?_
  refine x_ls 27 rfl (Or.inl rfl) rfl ?_
  exact z_cv (As := [.ref 6]) (rest := []) (b := 17) rfl at_Ta_readKeyword rfl rfl (Nat.le_of_ble_eq_true rfl) (Nat.le_of_ble_eq_true rfl) ⟨rfl, rfl, rfl⟩ (by decide) rfl h

theorem bk_Fo_takeText_30 {k : Nat} {pa pb : Nat} {ga : Nat → Nat} {I : pm_II} {J : pm_JJ} {Q : Option Value → pm_H → Prop} {x2 : Int32} {x3 : Int32} (h : Px k 176 m_Ta_expect 0 [.ref 17, .int 32] [] (hp I J (pm_RT pa pb ga)) (fun r h' => h'.1 = 176 ∧ Px (k + 1) 176 m_Fo_takeText 36 [.ref 29, .ref 17, .int x2, .int x3, .null] (r.toList ++ []) h' Q)) : Px (k + 1) 176 m_Fo_takeText 30 [.ref 29, .ref 17, .int x2, .int x3, .null] [] (hp I J (pm_RT pa pb ga)) Q := by
  refine x_l 31 rfl rfl rfl ?_
  refine z_k 33 32 rfl (by decide) rfl ?_
  exact z_cv (As := [.int 32]) (rest := []) (b := 17) rfl at_Ta_expect rfl rfl (Nat.le_of_ble_eq_true rfl) (Nat.le_of_ble_eq_true rfl) ⟨rfl, rfl, rfl⟩ (by decide) rfl h

theorem bk_Fo_takeText_36 {k : Nat} {pa pb : Nat} {ga : Nat → Nat} {I : pm_II} {J : pm_JJ} {Q : Option Value → pm_H → Prop} {x2 : Int32} {x3 : Int32} (h : Px k 176 m_Fo_halvings 0 [.int x2] [] (hp I J (pm_RT pa pb ga)) (fun r h' => h'.1 = 176 ∧ Px (k + 1) 176 m_Fo_takeText 42 [.ref 29, .ref 17, .int x2, .int x3, .null] (r.toList ++ [.ref 17, .ref 29]) h' Q)) : Px (k + 1) 176 m_Fo_takeText 36 [.ref 29, .ref 17, .int x2, .int x3, .null] [] (hp I J (pm_RT pa pb ga)) Q := by
  refine x_l 37 rfl rfl rfl ?_
  refine x_l 38 rfl rfl rfl ?_
  refine x_l 39 rfl rfl rfl ?_
  exact z_cs (As := [.int x2]) (rest := [.ref 17, .ref 29]) rfl at_Fo_halvings rfl rfl (Nat.le_of_ble_eq_true rfl) (Nat.le_of_ble_eq_true rfl) rfl h

theorem bk_Fo_takeText_42 {k : Nat} {pa pb : Nat} {ga : Nat → Nat} {I : pm_II} {J : pm_JJ} {Q : Option Value → pm_H → Prop} {x2 : Int32} {x3 : Int32} {s2 : Int32} (h : Px k 176 m_Fo_halvings 0 [.int x3] [] (hp I J (pm_RT pa pb ga)) (fun r h' => h'.1 = 176 ∧ Px (k + 1) 176 m_Fo_takeText 46 [.ref 29, .ref 17, .int x2, .int x3, .null] (r.toList ++ [.int s2, .ref 17, .ref 29]) h' Q)) : Px (k + 1) 176 m_Fo_takeText 42 [.ref 29, .ref 17, .int x2, .int x3, .null] [.int s2, .ref 17, .ref 29] (hp I J (pm_RT pa pb ga)) Q := by
  refine x_l 43 rfl rfl rfl ?_
  exact z_cs (As := [.int x3]) (rest := [.int s2, .ref 17, .ref 29]) rfl at_Fo_halvings rfl rfl (Nat.le_of_ble_eq_true rfl) (Nat.le_of_ble_eq_true rfl) rfl h

theorem bk_Fo_takeText_46 {k : Nat} {pa pb : Nat} {ga : Nat → Nat} {I : pm_II} {J : pm_JJ} {Q : Option Value → pm_H → Prop} {x2 : Int32} {x3 : Int32} {s2 : Int32} {s3 : Int32} (h : Px k 176 m_Fo_readFolds 0 [.ref 29, .ref 17, .int s2, .int s3, .null, .null, .null, .null] [] (hp I J (pm_RT pa pb ga)) (fun r h' => h'.1 = 176 ∧ Px (k + 1) 176 m_Fo_takeText 49 [.ref 29, .ref 17, .int x2, .int x3, .null] (r.toList ++ []) h' Q)) : Px (k + 1) 176 m_Fo_takeText 46 [.ref 29, .ref 17, .int x2, .int x3, .null] [.int s3, .int s2, .ref 17, .ref 29] (hp I J (pm_RT pa pb ga)) Q := by
  exact z_cv (As := [.ref 17, .int s2, .int s3]) (rest := []) (b := 29) rfl at_Fo_readFolds rfl rfl (Nat.le_of_ble_eq_true rfl) (Nat.le_of_ble_eq_true rfl) ⟨rfl, rfl, rfl⟩ (by decide) rfl h

theorem bk_Fo_takeText_49 {k : Nat} {pa pb : Nat} {ga : Nat → Nat} {I : pm_II} {J : pm_JJ} {Q : Option Value → pm_H → Prop} {x2 : Int32} {x3 : Int32} {s0 : Int32} (h : Px k 176 m_Ta_expect 0 [.ref 17, .int 10] [] (hp I J (pm_RT pa pb ga)) (fun r h' => h'.1 = 176 ∧ Px (k + 1) 176 m_Fo_takeText 57 [.ref 29, .ref 17, .int x2, .int x3, .int s0] (r.toList ++ []) h' Q)) : Px (k + 1) 176 m_Fo_takeText 49 [.ref 29, .ref 17, .int x2, .int x3, .null] [.int s0] (hp I J (pm_RT pa pb ga)) Q := by
  refine x_t 51 rfl rfl rfl ?_
  refine x_l 52 rfl rfl rfl ?_
  refine z_k 54 10 rfl (by decide) rfl ?_
  exact z_cv (As := [.int 10]) (rest := []) (b := 17) rfl at_Ta_expect rfl rfl (Nat.le_of_ble_eq_true rfl) (Nat.le_of_ble_eq_true rfl) ⟨rfl, rfl, rfl⟩ (by decide) rfl h

theorem bk_Fo_takeText_57 {k : Nat} {pa pb : Nat} {ga : Nat → Nat} {I : pm_II} {J : pm_JJ} {Q : Option Value → pm_H → Prop} {x2 : Int32} {x3 : Int32} {x4 : Int32} (h : Px k 176 m_Ta_finish 0 [.ref 17] [] (hp I J (pm_RT pa pb ga)) (fun r h' => h'.1 = 176 ∧ Px (k + 1) 176 m_Fo_takeText 61 [.ref 29, .ref 17, .int x2, .int x3, .int x4] (r.toList ++ []) h' Q)) : Px (k + 1) 176 m_Fo_takeText 57 [.ref 29, .ref 17, .int x2, .int x3, .int x4] [] (hp I J (pm_RT pa pb ga)) Q := by
  refine x_l 58 rfl rfl rfl ?_
  exact z_cv (As := []) (rest := []) (b := 17) rfl at_Ta_finish rfl rfl (Nat.le_of_ble_eq_true rfl) (Nat.le_of_ble_eq_true rfl) ⟨rfl, rfl, rfl⟩ (by decide) rfl h

theorem bk_Fo_takeText_61 {k : Nat} {pa pb : Nat} {ga : Nat → Nat} {I : pm_II} {J : pm_JJ} {Q : Option Value → pm_H → Prop} {x2 : Int32} {x3 : Int32} {x4 : Int32} (h : Px k 176 m_Ta_isRight 0 [.ref 17] [] (hp I J (pm_RT pa pb ga)) (fun r h' => h'.1 = 176 ∧ Px (k + 1) 176 m_Fo_takeText 65 [.ref 29, .ref 17, .int x2, .int x3, .int x4] (r.toList ++ []) h' Q)) : Px (k + 1) 176 m_Fo_takeText 61 [.ref 29, .ref 17, .int x2, .int x3, .int x4] [] (hp I J (pm_RT pa pb ga)) Q := by
  refine x_l 62 rfl rfl rfl ?_
  exact z_cv (As := []) (rest := []) (b := 17) rfl at_Ta_isRight rfl rfl (Nat.le_of_ble_eq_true rfl) (Nat.le_of_ble_eq_true rfl) ⟨rfl, rfl, rfl⟩ (by decide) rfl h

theorem bk_Fo_takeText_65 {k : Nat} {pa pb : Nat} {ga : Nat → Nat} {I : pm_II} {J : pm_JJ} {Q : Option Value → pm_H → Prop} {x2 : Int32} {x3 : Int32} {x4 : Int32} {s0 : Int32} (h : ((¬ s0 = 0 → Px k 176 m_Fo_foldSheet 0 [.ref 29, .int x2, .int x3, .int x4, .null] [] (hp I J (pm_RT pa pb ga)) (fun r h' => h'.1 = 176 ∧ Px (k + 1) 176 m_Fo_takeText 78 [.ref 29, .ref 17, .int x2, .int x3, .int x4] (r.toList ++ []) h' Q)) ∧ (¬ (¬ s0 = 0) → Q (some (.int (-1))) (hp I J (pm_RT pa pb ga))))) : Px (k + 1) 176 m_Fo_takeText 65 [.ref 29, .ref 17, .int x2, .int x3, .int x4] [.int s0] (hp I J (pm_RT pa pb ga)) Q := by
  refine x_b 68 rfl rfl rfl (fun c => ?_) (fun c => ?_)
  · have h := h.1 c
    refine x_l 71 rfl rfl rfl ?_
    refine x_l 72 rfl rfl rfl ?_
    refine x_l 73 rfl rfl rfl ?_
    refine x_l 75 rfl rfl rfl ?_
    exact z_cv (As := [.int x2, .int x3, .int x4]) (rest := []) (b := 29) rfl at_Fo_foldSheet rfl rfl (Nat.le_of_ble_eq_true rfl) (Nat.le_of_ble_eq_true rfl) ⟨rfl, rfl, rfl⟩ (by decide) rfl h
  · have h := h.2 c
    refine z_k 69 (-1) rfl (by decide) rfl ?_
    exact x_ri rfl (Or.inl rfl) h

theorem bk_Fo_takeText_78 {k : Nat} {pa pb : Nat} {ga : Nat → Nat} {I : pm_II} {J : pm_JJ} {Q : Option Value → pm_H → Prop} {x2 : Int32} {x3 : Int32} {x4 : Int32} (h : Px k 176 m_Fo_leaves 0 [.ref 29] [] (hp I J (pm_RT pa pb ga)) (fun r h' => h'.1 = 176 ∧ Px (k + 1) 176 m_Fo_takeText 82 [.ref 29, .ref 17, .int x2, .int x3, .int x4] (r.toList ++ []) h' Q)) : Px (k + 1) 176 m_Fo_takeText 78 [.ref 29, .ref 17, .int x2, .int x3, .int x4] [] (hp I J (pm_RT pa pb ga)) Q := by
  refine x_l 79 rfl rfl rfl ?_
  exact z_cv (As := []) (rest := []) (b := 29) rfl at_Fo_leaves rfl rfl (Nat.le_of_ble_eq_true rfl) (Nat.le_of_ble_eq_true rfl) ⟨rfl, rfl, rfl⟩ (by decide) rfl h

theorem bk_Fo_takeText_82 {k : Nat} {pa pb : Nat} {ga : Nat → Nat} {I : pm_II} {J : pm_JJ} {Q : Option Value → pm_H → Prop} {x2 : Int32} {x3 : Int32} {x4 : Int32} {s0 : Int32} (h : Q (some (.int s0)) (hp I J (pm_RT pa pb ga))) : Px (k + 1) 176 m_Fo_takeText 82 [.ref 29, .ref 17, .int x2, .int x3, .int x4] [.int s0] (hp I J (pm_RT pa pb ga)) Q := by
  exact x_ri rfl (Or.inl rfl) h

theorem bk_Fo_readSide_0 {k : Nat} {pa pb : Nat} {ga : Nat → Nat} {I : pm_II} {J : pm_JJ} {Q : Option Value → pm_H → Prop} (h : Px k 176 m_Ta_readNextNumber 0 [.ref 17, .int 1, .int 8] [] (hp I J (pm_RT pa pb ga)) (fun r h' => h'.1 = 176 ∧ Px (k + 1) 176 m_Fo_readSide 7 [.ref 29, .ref 17, .null] (r.toList ++ []) h' Q)) : Px (k + 1) 176 m_Fo_readSide 0 [.ref 29, .ref 17, .null] [] (hp I J (pm_RT pa pb ga)) Q := by
  refine x_l 1 rfl rfl rfl ?_
  refine z_k 2 1 rfl (by decide) rfl ?_
  refine z_k 4 8 rfl (by decide) rfl ?_
  exact z_cv (As := [.int 1, .int 8]) (rest := []) (b := 17) rfl at_Ta_readNextNumber rfl rfl (Nat.le_of_ble_eq_true rfl) (Nat.le_of_ble_eq_true rfl) ⟨rfl, rfl, rfl⟩ (by decide) rfl h

theorem bk_Fo_readSide_7 {k : Nat} {pa pb : Nat} {ga : Nat → Nat} {I : pm_II} {J : pm_JJ} {Q : Option Value → pm_H → Prop} {s0 : Int32} (h : ((s0 = 1 → Px (k + 1) 176 m_Fo_readSide 33 [.ref 29, .ref 17, .int s0] [] (hp I J (pm_RT pa pb ga)) Q) ∧ (¬ (s0 = 1) → ((s0 = 2 → Px (k + 1) 176 m_Fo_readSide 33 [.ref 29, .ref 17, .int s0] [] (hp I J (pm_RT pa pb ga)) Q) ∧ (¬ (s0 = 2) → ((s0 = 4 → Px (k + 1) 176 m_Fo_readSide 33 [.ref 29, .ref 17, .int s0] [] (hp I J (pm_RT pa pb ga)) Q) ∧ (¬ (s0 = 4) → ((s0 = 8 → Px (k + 1) 176 m_Fo_readSide 33 [.ref 29, .ref 17, .int s0] [] (hp I J (pm_RT pa pb ga)) Q) ∧ (¬ (s0 = 8) → Px k 176 m_Ta_blameToken 0 [.ref 17] [] (hp I J (pm_RT pa pb ga)) (fun r h' => h'.1 = 176 ∧ Px (k + 1) 176 m_Fo_readSide 33 [.ref 29, .ref 17, .int s0] (r.toList ++ []) h' Q)))))))))) : Px (k + 1) 176 m_Fo_readSide 7 [.ref 29, .ref 17, .null] [.int s0] (hp I J (pm_RT pa pb ga)) Q := by
  refine x_t 8 rfl rfl rfl ?_
  refine x_l 9 rfl rfl rfl ?_
  refine z_k 10 1 rfl (by decide) rfl ?_
  refine x_b 13 rfl rfl rfl (fun c => ?_) (fun c => ?_)
  · have h := h.1 c
    exact h
  · have h := h.2 c
    refine x_l 14 rfl rfl rfl ?_
    refine z_k 15 2 rfl (by decide) rfl ?_
    refine x_b 18 rfl rfl rfl (fun c => ?_) (fun c => ?_)
    · have h := h.1 c
      exact h
    · have h := h.2 c
      refine x_l 19 rfl rfl rfl ?_
      refine z_k 20 4 rfl (by decide) rfl ?_
      refine x_b 23 rfl rfl rfl (fun c => ?_) (fun c => ?_)
      · have h := h.1 c
        exact h
      · have h := h.2 c
        refine x_l 24 rfl rfl rfl ?_
        refine z_k 26 8 rfl (by decide) rfl ?_
        refine x_b 29 rfl rfl rfl (fun c => ?_) (fun c => ?_)
        · have h := h.1 c
          exact h
        · have h := h.2 c
          refine x_l 30 rfl rfl rfl ?_
          exact z_cv (As := []) (rest := []) (b := 17) rfl at_Ta_blameToken rfl rfl (Nat.le_of_ble_eq_true rfl) (Nat.le_of_ble_eq_true rfl) ⟨rfl, rfl, rfl⟩ (by decide) rfl h

theorem bk_Fo_readSide_33 {k : Nat} {pa pb : Nat} {ga : Nat → Nat} {I : pm_II} {J : pm_JJ} {Q : Option Value → pm_H → Prop} {x2 : Int32} (h : Q (some (.int x2)) (hp I J (pm_RT pa pb ga))) : Px (k + 1) 176 m_Fo_readSide 33 [.ref 29, .ref 17, .int x2] [] (hp I J (pm_RT pa pb ga)) Q := by
  refine x_l 34 rfl rfl rfl ?_
  exact x_ri rfl (Or.inl rfl) h

theorem bk_Fo_halvings_0 {k : Nat} {pa pb : Nat} {ga : Nat → Nat} {I : pm_II} {J : pm_JJ} {Q : Option Value → pm_H → Prop} {x0 : Int32} (h : ((x0 < 8 → ((x0 < 4 → ((x0 < 2 → Q (some (.int 0)) (hp I J (pm_RT pa pb ga))) ∧ (¬ (x0 < 2) → Q (some (.int 1)) (hp I J (pm_RT pa pb ga))))) ∧ (¬ (x0 < 4) → Q (some (.int 2)) (hp I J (pm_RT pa pb ga))))) ∧ (¬ (x0 < 8) → Q (some (.int 3)) (hp I J (pm_RT pa pb ga))))) : Px k 176 m_Fo_halvings 0 [.int x0] [] (hp I J (pm_RT pa pb ga)) Q := by
  refine x_l 1 rfl rfl rfl ?_
  refine z_k 3 8 rfl (by decide) rfl ?_
  refine x_b 6 rfl rfl rfl (fun c => ?_) (fun c => ?_)
  · have h := h.1 c
    refine x_l 9 rfl rfl rfl ?_
    refine z_k 10 4 rfl (by decide) rfl ?_
    refine x_b 13 rfl rfl rfl (fun c => ?_) (fun c => ?_)
    · have h := h.1 c
      refine x_l 16 rfl rfl rfl ?_
      refine z_k 17 2 rfl (by decide) rfl ?_
      refine x_b 20 rfl rfl rfl (fun c => ?_) (fun c => ?_)
      · have h := h.1 c
        refine z_k 25 0 rfl (by decide) rfl ?_
        exact x_ri rfl (Or.inl rfl) h
      · have h := h.2 c
        refine z_k 21 1 rfl (by decide) rfl ?_
        refine x_g rfl ?_
        exact x_ri rfl (Or.inl rfl) h
    · have h := h.2 c
      refine z_k 14 2 rfl (by decide) rfl ?_
      exact x_ri rfl (Or.inl rfl) h
  · have h := h.2 c
    refine z_k 7 3 rfl (by decide) rfl ?_
    exact x_ri rfl (Or.inl rfl) h

theorem bk_Fo_readFolds_0 {k : Nat} {pa pb : Nat} {ga : Nat → Nat} {I : pm_II} {J : pm_JJ} {Q : Option Value → pm_H → Prop} {x2 : Int32} {x3 : Int32} (h : Px (k + 1) 176 m_Fo_readFolds 9 [.ref 29, .ref 17, .int x2, .int x3, .int x2, .int x3, .int 0, .null] [] (hp I J (pm_RT pa pb ga)) Q) : Px (k + 1) 176 m_Fo_readFolds 0 [.ref 29, .ref 17, .int x2, .int x3, .null, .null, .null, .null] [] (hp I J (pm_RT pa pb ga)) Q := by
  refine x_l 1 rfl rfl rfl ?_
  refine x_t 3 rfl rfl rfl ?_
  refine x_l 4 rfl rfl rfl ?_
  refine x_t 6 rfl rfl rfl ?_
  refine z_k 7 0 rfl (by decide) rfl ?_
  refine x_t 9 rfl rfl rfl ?_
  exact h

theorem bk_Fo_readFolds_9 {k : Nat} {pa pb : Nat} {ga : Nat → Nat} {I : pm_II} {J : pm_JJ} {Q : Option Value → pm_H → Prop} {x2 : Int32} {x3 : Int32} {x4 : Int32} {x5 : Int32} {x6 : Int32} (h : ((6 ≤ x6 → Px (k + 1) 176 m_Fo_readFolds 105 [.ref 29, .ref 17, .int x2, .int x3, .int x4, .int x5, .int x6, .null] [] (hp I J (pm_RT pa pb ga)) Q) ∧ (¬ (6 ≤ x6) → (((x2 + x3) ≤ x6 → Px (k + 1) 176 m_Fo_readFolds 105 [.ref 29, .ref 17, .int x2, .int x3, .int x4, .int x5, .int x6, .null] [] (hp I J (pm_RT pa pb ga)) Q) ∧ (¬ ((x2 + x3) ≤ x6) → Px k 176 m_Ta_isRight 0 [.ref 17] [] (hp I J (pm_RT pa pb ga)) (fun r h' => h'.1 = 176 ∧ Px (k + 1) 176 m_Fo_readFolds 28 [.ref 29, .ref 17, .int x2, .int x3, .int x4, .int x5, .int x6, .null] (r.toList ++ []) h' Q)))))) : Px (k + 1) 176 m_Fo_readFolds 9 [.ref 29, .ref 17, .int x2, .int x3, .int x4, .int x5, .int x6, .null] [] (hp I J (pm_RT pa pb ga)) Q := by
  refine x_l 11 rfl rfl rfl ?_
  refine z_k 13 6 rfl (by decide) rfl ?_
  refine x_b 16 rfl rfl rfl (fun c => ?_) (fun c => ?_)
  · have h := h.1 c
    exact h
  · have h := h.2 c
    refine x_l 18 rfl rfl rfl ?_
    refine x_l 19 rfl rfl rfl ?_
    refine x_l 20 rfl rfl rfl ?_
    refine x_s 21 rfl rfl rfl ?_
    refine x_b 24 rfl rfl rfl (fun c => ?_) (fun c => ?_)
    · have h := h.1 c
      exact h
    · have h := h.2 c
      refine x_l 25 rfl rfl rfl ?_
      exact z_cv (As := []) (rest := []) (b := 17) rfl at_Ta_isRight rfl rfl (Nat.le_of_ble_eq_true rfl) (Nat.le_of_ble_eq_true rfl) ⟨rfl, rfl, rfl⟩ (by decide) rfl h

theorem bk_Fo_readFolds_28 {k : Nat} {pa pb : Nat} {ga : Nat → Nat} {I : pm_II} {J : pm_JJ} {Q : Option Value → pm_H → Prop} {x2 : Int32} {x3 : Int32} {x4 : Int32} {x5 : Int32} {x6 : Int32} {s0 : Int32} (h : ((s0 = 0 → Px (k + 1) 176 m_Fo_readFolds 105 [.ref 29, .ref 17, .int x2, .int x3, .int x4, .int x5, .int x6, .null] [] (hp I J (pm_RT pa pb ga)) Q) ∧ (¬ (s0 = 0) → Px k 176 m_Ta_next 0 [.ref 17] [] (hp I J (pm_RT pa pb ga)) (fun r h' => h'.1 = 176 ∧ Px (k + 1) 176 m_Fo_readFolds 35 [.ref 29, .ref 17, .int x2, .int x3, .int x4, .int x5, .int x6, .null] (r.toList ++ []) h' Q)))) : Px (k + 1) 176 m_Fo_readFolds 28 [.ref 29, .ref 17, .int x2, .int x3, .int x4, .int x5, .int x6, .null] [.int s0] (hp I J (pm_RT pa pb ga)) Q := by
  refine x_b 31 rfl rfl rfl (fun c => ?_) (fun c => ?_)
  · have h := h.1 c
    exact h
  · have h := h.2 c
    refine x_l 32 rfl rfl rfl ?_
    exact z_cv (As := []) (rest := []) (b := 17) rfl at_Ta_next rfl rfl (Nat.le_of_ble_eq_true rfl) (Nat.le_of_ble_eq_true rfl) ⟨rfl, rfl, rfl⟩ (by decide) rfl h

theorem bk_Fo_readFolds_35 {k : Nat} {pa pb : Nat} {ga : Nat → Nat} {I : pm_II} {J : pm_JJ} {Q : Option Value → pm_H → Prop} {x2 : Int32} {x3 : Int32} {x4 : Int32} {x5 : Int32} {x6 : Int32} {s0 : Int32} (h : Px k 176 m_Fo_isAcross 0 [.int s0] [] (hp I J (pm_RT pa pb ga)) (fun r h' => h'.1 = 176 ∧ Px (k + 1) 176 m_Fo_readFolds 42 [.ref 29, .ref 17, .int x2, .int x3, .int x4, .int x5, .int x6, .int s0] (r.toList ++ []) h' Q)) : Px (k + 1) 176 m_Fo_readFolds 35 [.ref 29, .ref 17, .int x2, .int x3, .int x4, .int x5, .int x6, .null] [.int s0] (hp I J (pm_RT pa pb ga)) Q := by
  refine x_t 37 rfl rfl rfl ?_
  refine x_l 39 rfl rfl rfl ?_
  exact z_cs (As := [.int s0]) (rest := []) rfl at_Fo_isAcross rfl rfl (Nat.le_of_ble_eq_true rfl) (Nat.le_of_ble_eq_true rfl) rfl h

theorem bk_Fo_readFolds_42 {k : Nat} {pa pb : Nat} {ga : Nat → Nat} {I : pm_II} {J : pm_JJ} {Q : Option Value → pm_H → Prop} {x2 : Int32} {x3 : Int32} {x4 : Int32} {x5 : Int32} {x6 : Int32} {x7 : Int32} {s0 : Int32} (h : ((s0 = 0 → Px (k + 1) 176 m_Fo_readFolds 56 [.ref 29, .ref 17, .int x2, .int x3, .int x4, .int x5, .int x6, .int x7] [] (hp I J (pm_RT pa pb ga)) Q) ∧ (¬ (s0 = 0) → ((x5 ≤ 0 → Px (k + 1) 176 m_Fo_readFolds 56 [.ref 29, .ref 17, .int x2, .int x3, .int x4, .int x5, .int x6, .int x7] [] (hp I J (pm_RT pa pb ga)) Q) ∧ (¬ (x5 ≤ 0) → Px (k + 1) 176 m_Fo_readFolds 83 [.ref 29, .ref 17, .int x2, .int x3, .int x4, .int (x5 + Int32.ofInt (-1)), .int x6, .int x7] [] (hp I J (pm_RT pa pb ga)) Q))))) : Px (k + 1) 176 m_Fo_readFolds 42 [.ref 29, .ref 17, .int x2, .int x3, .int x4, .int x5, .int x6, .int x7] [.int s0] (hp I J (pm_RT pa pb ga)) Q := by
  refine x_b 45 rfl rfl rfl (fun c => ?_) (fun c => ?_)
  · have h := h.1 c
    exact h
  · have h := h.2 c
    refine x_l 47 rfl rfl rfl ?_
    refine x_b 50 rfl rfl rfl (fun c => ?_) (fun c => ?_)
    · have h := h.1 c
      exact h
    · have h := h.2 c
      refine x_t 53 rfl rfl rfl ?_
      refine x_g rfl ?_
      exact h

theorem bk_Fo_readFolds_56 {k : Nat} {pa pb : Nat} {ga : Nat → Nat} {I : pm_II} {J : pm_JJ} {Q : Option Value → pm_H → Prop} {x2 : Int32} {x3 : Int32} {x4 : Int32} {x5 : Int32} {x6 : Int32} {x7 : Int32} (h : Px k 176 m_Fo_isDown 0 [.int x7] [] (hp I J (pm_RT pa pb ga)) (fun r h' => h'.1 = 176 ∧ Px (k + 1) 176 m_Fo_readFolds 61 [.ref 29, .ref 17, .int x2, .int x3, .int x4, .int x5, .int x6, .int x7] (r.toList ++ []) h' Q)) : Px (k + 1) 176 m_Fo_readFolds 56 [.ref 29, .ref 17, .int x2, .int x3, .int x4, .int x5, .int x6, .int x7] [] (hp I J (pm_RT pa pb ga)) Q := by
  refine x_l 58 rfl rfl rfl ?_
  exact z_cs (As := [.int x7]) (rest := []) rfl at_Fo_isDown rfl rfl (Nat.le_of_ble_eq_true rfl) (Nat.le_of_ble_eq_true rfl) rfl h

theorem bk_Fo_readFolds_61 {k : Nat} {pa pb : Nat} {ga : Nat → Nat} {I : pm_II} {J : pm_JJ} {Q : Option Value → pm_H → Prop} {x2 : Int32} {x3 : Int32} {x4 : Int32} {x5 : Int32} {x6 : Int32} {x7 : Int32} {s0 : Int32} (h : ((s0 = 0 → Px (k + 1) 176 m_Fo_readFolds 75 [.ref 29, .ref 17, .int x2, .int x3, .int x4, .int x5, .int x6, .int x7] [] (hp I J (pm_RT pa pb ga)) Q) ∧ (¬ (s0 = 0) → ((x4 ≤ 0 → Px (k + 1) 176 m_Fo_readFolds 75 [.ref 29, .ref 17, .int x2, .int x3, .int x4, .int x5, .int x6, .int x7] [] (hp I J (pm_RT pa pb ga)) Q) ∧ (¬ (x4 ≤ 0) → Px (k + 1) 176 m_Fo_readFolds 83 [.ref 29, .ref 17, .int x2, .int x3, .int (x4 + Int32.ofInt (-1)), .int x5, .int x6, .int x7] [] (hp I J (pm_RT pa pb ga)) Q))))) : Px (k + 1) 176 m_Fo_readFolds 61 [.ref 29, .ref 17, .int x2, .int x3, .int x4, .int x5, .int x6, .int x7] [.int s0] (hp I J (pm_RT pa pb ga)) Q := by
  refine x_b 64 rfl rfl rfl (fun c => ?_) (fun c => ?_)
  · have h := h.1 c
    exact h
  · have h := h.2 c
    refine x_l 66 rfl rfl rfl ?_
    refine x_b 69 rfl rfl rfl (fun c => ?_) (fun c => ?_)
    · have h := h.1 c
      exact h
    · have h := h.2 c
      refine x_t 72 rfl rfl rfl ?_
      refine x_g rfl ?_
      exact h

theorem bk_Fo_readFolds_75 {k : Nat} {pa pb : Nat} {ga : Nat → Nat} {I : pm_II} {J : pm_JJ} {Q : Option Value → pm_H → Prop} {x2 : Int32} {x3 : Int32} {x4 : Int32} {x5 : Int32} {x6 : Int32} {x7 : Int32} (h : Px k 176 m_Ta_place 0 [.ref 17] [] (hp I J (pm_RT pa pb ga)) (fun r h' => h'.1 = 176 ∧ Px (k + 1) 176 m_Fo_readFolds 80 [.ref 29, .ref 17, .int x2, .int x3, .int x4, .int x5, .int x6, .int x7] (r.toList ++ [.ref 17]) h' Q)) : Px (k + 1) 176 m_Fo_readFolds 75 [.ref 29, .ref 17, .int x2, .int x3, .int x4, .int x5, .int x6, .int x7] [] (hp I J (pm_RT pa pb ga)) Q := by
  refine x_l 76 rfl rfl rfl ?_
  refine x_l 77 rfl rfl rfl ?_
  exact z_cv (As := []) (rest := [.ref 17]) (b := 17) rfl at_Ta_place rfl rfl (Nat.le_of_ble_eq_true rfl) (Nat.le_of_ble_eq_true rfl) ⟨rfl, rfl, rfl⟩ (by decide) rfl h

theorem bk_Fo_readFolds_80 {k : Nat} {pa pb : Nat} {ga : Nat → Nat} {I : pm_II} {J : pm_JJ} {Q : Option Value → pm_H → Prop} {x2 : Int32} {x3 : Int32} {x4 : Int32} {x5 : Int32} {x6 : Int32} {x7 : Int32} {s1 : Int32} (h : Px k 176 m_Ta_blame 0 [.ref 17, .int s1] [] (hp I J (pm_RT pa pb ga)) (fun r h' => h'.1 = 176 ∧ Px (k + 1) 176 m_Fo_readFolds 83 [.ref 29, .ref 17, .int x2, .int x3, .int x4, .int x5, .int x6, .int x7] (r.toList ++ []) h' Q)) : Px (k + 1) 176 m_Fo_readFolds 80 [.ref 29, .ref 17, .int x2, .int x3, .int x4, .int x5, .int x6, .int x7] [.int s1, .ref 17] (hp I J (pm_RT pa pb ga)) Q := by
  exact z_cv (As := [.int s1]) (rest := []) (b := 17) rfl at_Ta_blame rfl rfl (Nat.le_of_ble_eq_true rfl) (Nat.le_of_ble_eq_true rfl) ⟨rfl, rfl, rfl⟩ (by decide) rfl h

theorem bk_Fo_readFolds_83 {k : Nat} {pa pb : Nat} {ga : Nat → Nat} {I : pm_II} {J : pm_JJ} {Q : Option Value → pm_H → Prop} {x2 : Int32} {x3 : Int32} {x4 : Int32} {x5 : Int32} {x6 : Int32} {x7 : Int32} (h : Px k 176 m_Ta_takes 0 [.ref 17, .int x7] [] (hp I J (pm_RT pa pb ga)) (fun r h' => h'.1 = 176 ∧ Px (k + 1) 176 m_Fo_readFolds 89 [.ref 29, .ref 17, .int x2, .int x3, .int x4, .int x5, .int x6, .int x7] (r.toList ++ []) h' Q)) : Px (k + 1) 176 m_Fo_readFolds 83 [.ref 29, .ref 17, .int x2, .int x3, .int x4, .int x5, .int x6, .int x7] [] (hp I J (pm_RT pa pb ga)) Q := by
  refine x_l 84 rfl rfl rfl ?_
  refine x_l 86 rfl rfl rfl ?_
  exact z_cv (As := [.int x7]) (rest := []) (b := 17) rfl at_Ta_takes rfl rfl (Nat.le_of_ble_eq_true rfl) (Nat.le_of_ble_eq_true rfl) ⟨rfl, rfl, rfl⟩ (by decide) rfl h

theorem bk_Fo_readFolds_89 {k : Nat} {pa pb : Nat} {ga : Nat → Nat} {I : pm_II} {J : pm_JJ} {Q : Option Value → pm_H → Prop} {x2 : Int32} {x3 : Int32} {x4 : Int32} {x5 : Int32} {x6 : Int32} {x7 : Int32} {s0 : Int32} (h : vp_in x6 6 ∧ Px (k + 1) 176 m_Fo_readFolds 9 [.ref 29, .ref 17, .int x2, .int x3, .int x4, .int x5, .int (x6 + Int32.ofInt 1), .int x7] [] (hp (pm_up I 30 ((x6 : Int32).toNatClampNeg) x7) J (pm_RT pa pb ga)) Q) : Px (k + 1) 176 m_Fo_readFolds 89 [.ref 29, .ref 17, .int x2, .int x3, .int x4, .int x5, .int x6, .int x7] [.int s0] (hp I J (pm_RT pa pb ga)) Q := by
  refine x_s 90 rfl rfl rfl ?_
  refine x_l 91 rfl rfl rfl ?_
  refine z_gf 94 (.ref 30) rfl ⟨rfl, rfl, rfl⟩ rfl rfl ?_
  refine x_l 96 rfl rfl rfl ?_
  refine x_l 98 rfl rfl rfl ?_
  have h1 := h.1
  have h := h.2
  refine z_is 99 6 rfl ⟨rfl, rfl, rfl⟩ rfl h1 rfl ?_
  refine x_t 102 rfl rfl rfl ?_
  refine x_g rfl ?_
  exact h

theorem bk_Fo_readFolds_105 {k : Nat} {pa pb : Nat} {ga : Nat → Nat} {I : pm_II} {J : pm_JJ} {Q : Option Value → pm_H → Prop} {x2 : Int32} {x3 : Int32} {x4 : Int32} {x5 : Int32} {x6 : Int32} (h : Q (some (.int x6)) (hp I J (pm_RT pa pb ga))) : Px (k + 1) 176 m_Fo_readFolds 105 [.ref 29, .ref 17, .int x2, .int x3, .int x4, .int x5, .int x6, .null] [] (hp I J (pm_RT pa pb ga)) Q := by
  refine x_l 107 rfl rfl rfl ?_
  exact x_ri rfl (Or.inl rfl) h

theorem bk_Fo_isDown_0 {k : Nat} {pa pb : Nat} {ga : Nat → Nat} {I : pm_II} {J : pm_JJ} {Q : Option Value → pm_H → Prop} {x0 : Int32} (h : ((x0 = 116 → Q (some (.int 1)) (hp I J (pm_RT pa pb ga))) ∧ (¬ (x0 = 116) → ((¬ x0 = 98 → Q (some (.int 0)) (hp I J (pm_RT pa pb ga))) ∧ (¬ (¬ x0 = 98) → Q (some (.int 1)) (hp I J (pm_RT pa pb ga))))))) : Px k 176 m_Fo_isDown 0 [.int x0] [] (hp I J (pm_RT pa pb ga)) Q := by
  refine x_l 1 rfl rfl rfl ?_
  refine z_k 3 116 rfl (by decide) rfl ?_
  refine x_b 6 rfl rfl rfl (fun c => ?_) (fun c => ?_)
  · have h := h.1 c
    refine z_k 13 1 rfl (by decide) rfl ?_
    refine x_g rfl ?_
    exact x_ri rfl (Or.inr ⟨rfl, Or.inr rfl⟩) h
  · have h := h.2 c
    refine x_l 7 rfl rfl rfl ?_
    refine z_k 9 98 rfl (by decide) rfl ?_
    refine x_b 12 rfl rfl rfl (fun c => ?_) (fun c => ?_)
    · have h := h.1 c
      refine z_k 17 0 rfl (by decide) rfl ?_
      exact x_ri rfl (Or.inr ⟨rfl, Or.inl rfl⟩) h
    · have h := h.2 c
      refine z_k 13 1 rfl (by decide) rfl ?_
      refine x_g rfl ?_
      exact x_ri rfl (Or.inr ⟨rfl, Or.inr rfl⟩) h

theorem bk_Fo_bind_0 {k : Nat} {pa pb : Nat} {ga : Nat → Nat} {I : pm_II} {J : pm_JJ} {Q : Option Value → pm_H → Prop} {x1 : Int32} {x2 : Int32} {x3 : Int32} (h : ((x1 < 1 → Q (some (.int (-1))) (hp I J (pm_RT pa pb ga))) ∧ (¬ (x1 < 1) → ((8 < x1 → Q (some (.int (-1))) (hp I J (pm_RT pa pb ga))) ∧ (¬ (8 < x1) → ((x2 < 0 → Q (some (.int (-1))) (hp I J (pm_RT pa pb ga))) ∧ (¬ (x2 < 0) → ((x2 ≤ 1 → ((x3 < 1 → Q (some (.int (-1))) (hp I J (pm_RT pa pb ga))) ∧ (¬ (x3 < 1) → ((x3 ≤ 99 → Px k 176 m_Fo_leaves 0 [.ref 29] [] (hp (pm_up (pm_up (pm_up I 29 11 x1) 29 12 x2) 29 13 x3) J (pm_RT pa pb ga)) (fun r h' => h'.1 = 176 ∧ Px (k + 1) 176 m_Fo_bind 58 [.ref 29, .int x1, .int x2, .int x3] (r.toList ++ [.int x1]) h' Q)) ∧ (¬ (x3 ≤ 99) → Q (some (.int (-1))) (hp I J (pm_RT pa pb ga))))))) ∧ (¬ (x2 ≤ 1) → Q (some (.int (-1))) (hp I J (pm_RT pa pb ga))))))))))) : Px (k + 1) 176 m_Fo_bind 0 [.ref 29, .int x1, .int x2, .int x3] [] (hp I J (pm_RT pa pb ga)) Q := by
  refine x_l 1 rfl rfl rfl ?_
  refine z_k 2 1 rfl (by decide) rfl ?_
  refine x_b 5 rfl rfl rfl (fun c => ?_) (fun c => ?_)
  · have h := h.1 c
    refine z_k 21 (-1) rfl (by decide) rfl ?_
    exact x_ri rfl (Or.inl rfl) h
  · have h := h.2 c
    refine x_l 6 rfl rfl rfl ?_
    refine z_k 8 8 rfl (by decide) rfl ?_
    refine x_b 11 rfl rfl rfl (fun c => ?_) (fun c => ?_)
    · have h := h.1 c
      refine z_k 21 (-1) rfl (by decide) rfl ?_
      exact x_ri rfl (Or.inl rfl) h
    · have h := h.2 c
      refine x_l 12 rfl rfl rfl ?_
      refine x_b 15 rfl rfl rfl (fun c => ?_) (fun c => ?_)
      · have h := h.1 c
        refine z_k 21 (-1) rfl (by decide) rfl ?_
        exact x_ri rfl (Or.inl rfl) h
      · have h := h.2 c
        refine x_l 16 rfl rfl rfl ?_
        refine z_k 17 1 rfl (by decide) rfl ?_
        refine x_b 20 rfl rfl rfl (fun c => ?_) (fun c => ?_)
        · have h := h.1 c
          refine x_l 23 rfl rfl rfl ?_
          refine z_k 24 1 rfl (by decide) rfl ?_
          refine x_b 27 rfl rfl rfl (fun c => ?_) (fun c => ?_)
          · have h := h.1 c
            refine z_k 34 (-1) rfl (by decide) rfl ?_
            exact x_ri rfl (Or.inl rfl) h
          · have h := h.2 c
            refine x_l 28 rfl rfl rfl ?_
            refine z_k 30 99 rfl (by decide) rfl ?_
            refine x_b 33 rfl rfl rfl (fun c => ?_) (fun c => ?_)
            · have h := h.1 c
              refine x_l 36 rfl rfl rfl ?_
              refine x_l 37 rfl rfl rfl ?_
              refine z_pi 40 rfl (Or.inl rfl) rfl (fun z => by cases z) ⟨rfl, rfl, rfl⟩ rfl ?_
              refine x_l 41 rfl rfl rfl ?_
              refine x_l 42 rfl rfl rfl ?_
              refine z_pi 45 rfl (Or.inl rfl) rfl (fun z => by cases z) ⟨rfl, rfl, rfl⟩ rfl ?_
              refine x_l 46 rfl rfl rfl ?_
              refine x_l 47 rfl rfl rfl ?_
              refine z_pi 50 rfl (Or.inl rfl) rfl (fun z => by cases z) ⟨rfl, rfl, rfl⟩ rfl ?_
              refine x_l 51 rfl rfl rfl ?_
              refine z_gf 54 (.int x1) rfl ⟨rfl, rfl, rfl⟩ rfl rfl ?_
              refine x_l 55 rfl rfl rfl ?_
              exact z_cv (As := []) (rest := [.int x1]) (b := 29) rfl at_Fo_leaves rfl rfl (Nat.le_of_ble_eq_true rfl) (Nat.le_of_ble_eq_true rfl) ⟨rfl, rfl, rfl⟩ (by decide) rfl h
            · have h := h.2 c
              refine z_k 34 (-1) rfl (by decide) rfl ?_
              exact x_ri rfl (Or.inl rfl) h
        · have h := h.2 c
          refine z_k 21 (-1) rfl (by decide) rfl ?_
          exact x_ri rfl (Or.inl rfl) h

theorem bk_Fo_bind_58 {k : Nat} {pa pb : Nat} {ga : Nat → Nat} {I : pm_II} {J : pm_JJ} {Q : Option Value → pm_H → Prop} {x1 : Int32} {x2 : Int32} {x3 : Int32} {s0 : Int32} {s1 : Int32} (h : Q (some (.int ((s0 * s1) * (2 : Int32)))) (hp I J (pm_RT pa pb ga))) : Px (k + 1) 176 m_Fo_bind 58 [.ref 29, .int x1, .int x2, .int x3] [.int s1, .int s0] (hp I J (pm_RT pa pb ga)) Q := by
  refine x_s 59 rfl rfl rfl ?_
  refine z_k 60 2 rfl (by decide) rfl ?_
  refine x_s 61 rfl rfl rfl ?_
  exact x_ri rfl (Or.inl rfl) h

theorem bk_Fo_hasPanel_0 {k : Nat} {pa pb : Nat} {ga : Nat → Nat} {I : pm_II} {J : pm_JJ} {Q : Option Value → pm_H → Prop} {x1 : Int32} {x2 : Int32} {x3 : Int32} {x4 : Int32} (h : Px k 176 m_Fo_hasSide 0 [.ref 29, .int x1, .int x2] [] (hp I J (pm_RT pa pb ga)) (fun r h' => h'.1 = 176 ∧ Px (k + 1) 176 m_Fo_hasPanel 6 [.ref 29, .int x1, .int x2, .int x3, .int x4] (r.toList ++ []) h' Q)) : Px (k + 1) 176 m_Fo_hasPanel 0 [.ref 29, .int x1, .int x2, .int x3, .int x4] [] (hp I J (pm_RT pa pb ga)) Q := by
  refine x_l 1 rfl rfl rfl ?_
  refine x_l 2 rfl rfl rfl ?_
  refine x_l 3 rfl rfl rfl ?_
  exact z_cv (As := [.int x1, .int x2]) (rest := []) (b := 29) rfl at_Fo_hasSide rfl rfl (Nat.le_of_ble_eq_true rfl) (Nat.le_of_ble_eq_true rfl) ⟨rfl, rfl, rfl⟩ (by decide) rfl h

theorem bk_Fo_hasPanel_6 {k : Nat} {pa pb : Nat} {ga : Nat → Nat} {I : pm_II} {J : pm_JJ} {Q : Option Value → pm_H → Prop} {x1 : Int32} {x2 : Int32} {x3 : Int32} {x4 : Int32} {s0 : Int32} (h : ((s0 = 0 → Q (some (.int 0)) (hp I J (pm_RT pa pb ga))) ∧ (¬ (s0 = 0) → Px k 176 m_Fo_isPanel 0 [.ref 29, .int x3, .int x4] [] (hp I J (pm_RT pa pb ga)) (fun r h' => h'.1 = 176 ∧ Px (k + 1) 176 m_Fo_hasPanel 16 [.ref 29, .int x1, .int x2, .int x3, .int x4] (r.toList ++ []) h' Q)))) : Px (k + 1) 176 m_Fo_hasPanel 6 [.ref 29, .int x1, .int x2, .int x3, .int x4] [.int s0] (hp I J (pm_RT pa pb ga)) Q := by
  refine x_b 9 rfl rfl rfl (fun c => ?_) (fun c => ?_)
  · have h := h.1 c
    refine z_k 24 0 rfl (by decide) rfl ?_
    exact x_ri rfl (Or.inr ⟨rfl, Or.inl rfl⟩) h
  · have h := h.2 c
    refine x_l 10 rfl rfl rfl ?_
    refine x_l 11 rfl rfl rfl ?_
    refine x_l 13 rfl rfl rfl ?_
    exact z_cv (As := [.int x3, .int x4]) (rest := []) (b := 29) rfl at_Fo_isPanel rfl rfl (Nat.le_of_ble_eq_true rfl) (Nat.le_of_ble_eq_true rfl) ⟨rfl, rfl, rfl⟩ (by decide) rfl h

theorem bk_Fo_hasPanel_16 {k : Nat} {pa pb : Nat} {ga : Nat → Nat} {I : pm_II} {J : pm_JJ} {Q : Option Value → pm_H → Prop} {x1 : Int32} {x2 : Int32} {x3 : Int32} {x4 : Int32} {s0 : Int32} (h : ((s0 = 0 → Q (some (.int 0)) (hp I J (pm_RT pa pb ga))) ∧ (¬ (s0 = 0) → Q (some (.int 1)) (hp I J (pm_RT pa pb ga))))) : Px (k + 1) 176 m_Fo_hasPanel 16 [.ref 29, .int x1, .int x2, .int x3, .int x4] [.int s0] (hp I J (pm_RT pa pb ga)) Q := by
  refine x_b 19 rfl rfl rfl (fun c => ?_) (fun c => ?_)
  · have h := h.1 c
    refine z_k 24 0 rfl (by decide) rfl ?_
    exact x_ri rfl (Or.inr ⟨rfl, Or.inl rfl⟩) h
  · have h := h.2 c
    refine z_k 20 1 rfl (by decide) rfl ?_
    refine x_g rfl ?_
    exact x_ri rfl (Or.inr ⟨rfl, Or.inr rfl⟩) h

theorem bk_Fo_hasSide_0 {k : Nat} {pa pb : Nat} {ga : Nat → Nat} {I : pm_II} {J : pm_JJ} {Q : Option Value → pm_H → Prop} {x1 : Int32} {x2 : Int32} (h : ((x1 < 0 → Q (some (.int 0)) (hp I J (pm_RT pa pb ga))) ∧ (¬ (x1 < 0) → (((I 29 11) ≤ x1 → Q (some (.int 0)) (hp I J (pm_RT pa pb ga))) ∧ (¬ ((I 29 11) ≤ x1) → ((x2 < 0 → Q (some (.int 0)) (hp I J (pm_RT pa pb ga))) ∧ (¬ (x2 < 0) → ((1 < x2 → Q (some (.int 0)) (hp I J (pm_RT pa pb ga))) ∧ (¬ (1 < x2) → Q (some (.int 1)) (hp I J (pm_RT pa pb ga))))))))))) : Px k 176 m_Fo_hasSide 0 [.ref 29, .int x1, .int x2] [] (hp I J (pm_RT pa pb ga)) Q := by
  refine x_l 1 rfl rfl rfl ?_
  refine x_b 4 rfl rfl rfl (fun c => ?_) (fun c => ?_)
  · have h := h.1 c
    refine z_k 26 0 rfl (by decide) rfl ?_
    exact x_ri rfl (Or.inr ⟨rfl, Or.inl rfl⟩) h
  · have h := h.2 c
    refine x_l 5 rfl rfl rfl ?_
    refine x_l 6 rfl rfl rfl ?_
    refine z_gf 9 (.int (I 29 11)) rfl ⟨rfl, rfl, rfl⟩ rfl rfl ?_
    refine x_b 12 rfl rfl rfl (fun c => ?_) (fun c => ?_)
    · have h := h.1 c
      refine z_k 26 0 rfl (by decide) rfl ?_
      exact x_ri rfl (Or.inr ⟨rfl, Or.inl rfl⟩) h
    · have h := h.2 c
      refine x_l 13 rfl rfl rfl ?_
      refine x_b 16 rfl rfl rfl (fun c => ?_) (fun c => ?_)
      · have h := h.1 c
        refine z_k 26 0 rfl (by decide) rfl ?_
        exact x_ri rfl (Or.inr ⟨rfl, Or.inl rfl⟩) h
      · have h := h.2 c
        refine x_l 17 rfl rfl rfl ?_
        refine z_k 18 1 rfl (by decide) rfl ?_
        refine x_b 21 rfl rfl rfl (fun c => ?_) (fun c => ?_)
        · have h := h.1 c
          refine z_k 26 0 rfl (by decide) rfl ?_
          exact x_ri rfl (Or.inr ⟨rfl, Or.inl rfl⟩) h
        · have h := h.2 c
          refine z_k 22 1 rfl (by decide) rfl ?_
          refine x_g rfl ?_
          exact x_ri rfl (Or.inr ⟨rfl, Or.inr rfl⟩) h

theorem bk_Fo_isPanel_0 {k : Nat} {pa pb : Nat} {ga : Nat → Nat} {I : pm_II} {J : pm_JJ} {Q : Option Value → pm_H → Prop} {x1 : Int32} {x2 : Int32} (h : ((x1 < 0 → Q (some (.int 0)) (hp I J (pm_RT pa pb ga))) ∧ (¬ (x1 < 0) → (((I 29 6) ≤ x1 → Q (some (.int 0)) (hp I J (pm_RT pa pb ga))) ∧ (¬ ((I 29 6) ≤ x1) → ((x2 < 0 → Q (some (.int 0)) (hp I J (pm_RT pa pb ga))) ∧ (¬ (x2 < 0) → (((I 29 7) ≤ x2 → Q (some (.int 0)) (hp I J (pm_RT pa pb ga))) ∧ (¬ ((I 29 7) ≤ x2) → Q (some (.int 1)) (hp I J (pm_RT pa pb ga))))))))))) : Px k 176 m_Fo_isPanel 0 [.ref 29, .int x1, .int x2] [] (hp I J (pm_RT pa pb ga)) Q := by
  refine x_l 1 rfl rfl rfl ?_
  refine x_b 4 rfl rfl rfl (fun c => ?_) (fun c => ?_)
  · have h := h.1 c
    refine z_k 29 0 rfl (by decide) rfl ?_
    exact x_ri rfl (Or.inr ⟨rfl, Or.inl rfl⟩) h
  · have h := h.2 c
    refine x_l 5 rfl rfl rfl ?_
    refine x_l 6 rfl rfl rfl ?_
    refine z_gf 9 (.int (I 29 6)) rfl ⟨rfl, rfl, rfl⟩ rfl rfl ?_
    refine x_b 12 rfl rfl rfl (fun c => ?_) (fun c => ?_)
    · have h := h.1 c
      refine z_k 29 0 rfl (by decide) rfl ?_
      exact x_ri rfl (Or.inr ⟨rfl, Or.inl rfl⟩) h
    · have h := h.2 c
      refine x_l 13 rfl rfl rfl ?_
      refine x_b 16 rfl rfl rfl (fun c => ?_) (fun c => ?_)
      · have h := h.1 c
        refine z_k 29 0 rfl (by decide) rfl ?_
        exact x_ri rfl (Or.inr ⟨rfl, Or.inl rfl⟩) h
      · have h := h.2 c
        refine x_l 17 rfl rfl rfl ?_
        refine x_l 18 rfl rfl rfl ?_
        refine z_gf 21 (.int (I 29 7)) rfl ⟨rfl, rfl, rfl⟩ rfl rfl ?_
        refine x_b 24 rfl rfl rfl (fun c => ?_) (fun c => ?_)
        · have h := h.1 c
          refine z_k 29 0 rfl (by decide) rfl ?_
          exact x_ri rfl (Or.inr ⟨rfl, Or.inl rfl⟩) h
        · have h := h.2 c
          refine z_k 25 1 rfl (by decide) rfl ?_
          refine x_g rfl ?_
          exact x_ri rfl (Or.inr ⟨rfl, Or.inr rfl⟩) h

theorem bk_Fo_pageOn_0 {k : Nat} {pa pb : Nat} {ga : Nat → Nat} {I : pm_II} {J : pm_JJ} {Q : Option Value → pm_H → Prop} {x1 : Int32} {x2 : Int32} {x3 : Int32} {x4 : Int32} (h : Px k 176 m_Fo_hasPanel 0 [.ref 29, .int x1, .int x2, .int x3, .int x4] [] (hp I J (pm_RT pa pb ga)) (fun r h' => h'.1 = 176 ∧ Px (k + 1) 176 m_Fo_pageOn 9 [.ref 29, .int x1, .int x2, .int x3, .int x4, .null] (r.toList ++ []) h' Q)) : Px (k + 1) 176 m_Fo_pageOn 0 [.ref 29, .int x1, .int x2, .int x3, .int x4, .null] [] (hp I J (pm_RT pa pb ga)) Q := by
  refine x_l 1 rfl rfl rfl ?_
  refine x_l 2 rfl rfl rfl ?_
  refine x_l 3 rfl rfl rfl ?_
  refine x_l 4 rfl rfl rfl ?_
  refine x_l 6 rfl rfl rfl ?_
  exact z_cv (As := [.int x1, .int x2, .int x3, .int x4]) (rest := []) (b := 29) rfl at_Fo_hasPanel rfl rfl (Nat.le_of_ble_eq_true rfl) (Nat.le_of_ble_eq_true rfl) ⟨rfl, rfl, rfl⟩ (by decide) rfl h

theorem bk_Fo_pageOn_9 {k : Nat} {pa pb : Nat} {ga : Nat → Nat} {I : pm_II} {J : pm_JJ} {Q : Option Value → pm_H → Prop} {x1 : Int32} {x2 : Int32} {x3 : Int32} {x4 : Int32} {s0 : Int32} (h : ((¬ s0 = 0 → vp_in ((x3 * (I 29 7)) + x4) 64 ∧ Px k 176 m_Fo_placeOf 0 [.ref 29, .int x1, .int (I 33 ((((x3 * (I 29 7)) + x4) : Int32).toNatClampNeg)), .null] [] (hp I J (pm_RT pa pb ga)) (fun r h' => h'.1 = 176 ∧ Px (k + 1) 176 m_Fo_pageOn 37 [.ref 29, .int x1, .int x2, .int x3, .int x4, .int ((x3 * (I 29 7)) + x4)] (r.toList ++ []) h' Q)) ∧ (¬ (¬ s0 = 0) → Q (some (.int (-1))) (hp I J (pm_RT pa pb ga))))) : Px (k + 1) 176 m_Fo_pageOn 9 [.ref 29, .int x1, .int x2, .int x3, .int x4, .null] [.int s0] (hp I J (pm_RT pa pb ga)) Q := by
  refine x_b 12 rfl rfl rfl (fun c => ?_) (fun c => ?_)
  · have h := h.1 c
    refine x_l 15 rfl rfl rfl ?_
    refine x_l 16 rfl rfl rfl ?_
    refine z_gf 19 (.int (I 29 7)) rfl ⟨rfl, rfl, rfl⟩ rfl rfl ?_
    refine x_s 20 rfl rfl rfl ?_
    refine x_l 22 rfl rfl rfl ?_
    refine x_s 23 rfl rfl rfl ?_
    refine x_t 25 rfl rfl rfl ?_
    refine x_l 26 rfl rfl rfl ?_
    refine x_l 27 rfl rfl rfl ?_
    refine x_l 28 rfl rfl rfl ?_
    refine z_gf 31 (.ref 33) rfl ⟨rfl, rfl, rfl⟩ rfl rfl ?_
    refine x_l 33 rfl rfl rfl ?_
    have h1 := h.1
    have h := h.2
    refine z_il 34 64 rfl ⟨rfl, rfl, rfl⟩ rfl h1 rfl ?_
    exact z_cv (As := [.int x1, .int (I 33 ((((x3 * (I 29 7)) + x4) : Int32).toNatClampNeg))]) (rest := []) (b := 29) rfl at_Fo_placeOf rfl rfl (Nat.le_of_ble_eq_true rfl) (Nat.le_of_ble_eq_true rfl) ⟨rfl, rfl, rfl⟩ (by decide) rfl h
  · have h := h.2 c
    refine z_k 13 (-1) rfl (by decide) rfl ?_
    exact x_ri rfl (Or.inl rfl) h

theorem bk_Fo_pageOn_37 {k : Nat} {pa pb : Nat} {ga : Nat → Nat} {I : pm_II} {J : pm_JJ} {Q : Option Value → pm_H → Prop} {x1 : Int32} {x2 : Int32} {x3 : Int32} {x4 : Int32} {x5 : Int32} {s0 : Int32} (h : vp_in x5 64 ∧ Q (some (.int ((s0 * (2 : Int32)) + (x2 ^^^ (I 34 ((x5 : Int32).toNatClampNeg)))))) (hp I J (pm_RT pa pb ga))) : Px (k + 1) 176 m_Fo_pageOn 37 [.ref 29, .int x1, .int x2, .int x3, .int x4, .int x5] [.int s0] (hp I J (pm_RT pa pb ga)) Q := by
  refine z_k 38 2 rfl (by decide) rfl ?_
  refine x_s 39 rfl rfl rfl ?_
  refine x_l 40 rfl rfl rfl ?_
  refine x_l 41 rfl rfl rfl ?_
  refine z_gf 44 (.ref 34) rfl ⟨rfl, rfl, rfl⟩ rfl rfl ?_
  refine x_l 46 rfl rfl rfl ?_
  have h1 := h.1
  have h := h.2
  refine z_il 47 64 rfl ⟨rfl, rfl, rfl⟩ rfl h1 rfl ?_
  refine x_s 48 rfl rfl rfl ?_
  refine x_s 49 rfl rfl rfl ?_
  exact x_ri rfl (Or.inl rfl) h

theorem bk_Fo_placeOf_0 {k : Nat} {pa pb : Nat} {ga : Nat → Nat} {I : pm_II} {J : pm_JJ} {Q : Option Value → pm_H → Prop} {x1 : Int32} {x2 : Int32} (h : ((¬ (I 29 12) = 0 → Px k 176 m_Fo_leaves 0 [.ref 29] [] (hp I J (pm_RT pa pb ga)) (fun r h' => h'.1 = 176 ∧ Px (k + 1) 176 m_Fo_placeOf 20 [.ref 29, .int x1, .int x2, .null] (r.toList ++ []) h' Q)) ∧ (¬ (¬ (I 29 12) = 0) → Px k 176 m_Fo_leaves 0 [.ref 29] [] (hp I J (pm_RT pa pb ga)) (fun r h' => h'.1 = 176 ∧ Px (k + 1) 176 m_Fo_placeOf 12 [.ref 29, .int x1, .int x2, .null] (r.toList ++ [.int x1]) h' Q)))) : Px (k + 1) 176 m_Fo_placeOf 0 [.ref 29, .int x1, .int x2, .null] [] (hp I J (pm_RT pa pb ga)) Q := by
  refine x_l 1 rfl rfl rfl ?_
  refine z_gf 4 (.int (I 29 12)) rfl ⟨rfl, rfl, rfl⟩ rfl rfl ?_
  refine x_b 7 rfl rfl rfl (fun c => ?_) (fun c => ?_)
  · have h := h.1 c
    refine x_l 17 rfl rfl rfl ?_
    exact z_cv (As := []) (rest := []) (b := 29) rfl at_Fo_leaves rfl rfl (Nat.le_of_ble_eq_true rfl) (Nat.le_of_ble_eq_true rfl) ⟨rfl, rfl, rfl⟩ (by decide) rfl h
  · have h := h.2 c
    refine x_l 8 rfl rfl rfl ?_
    refine x_l 9 rfl rfl rfl ?_
    exact z_cv (As := []) (rest := [.int x1]) (b := 29) rfl at_Fo_leaves rfl rfl (Nat.le_of_ble_eq_true rfl) (Nat.le_of_ble_eq_true rfl) ⟨rfl, rfl, rfl⟩ (by decide) rfl h

theorem bk_Fo_placeOf_12 {k : Nat} {pa pb : Nat} {ga : Nat → Nat} {I : pm_II} {J : pm_JJ} {Q : Option Value → pm_H → Prop} {x1 : Int32} {x2 : Int32} {s0 : Int32} {s1 : Int32} (h : Q (some (.int ((s0 * s1) + x2))) (hp I J (pm_RT pa pb ga))) : Px (k + 1) 176 m_Fo_placeOf 12 [.ref 29, .int x1, .int x2, .null] [.int s1, .int s0] (hp I J (pm_RT pa pb ga)) Q := by
  refine x_s 13 rfl rfl rfl ?_
  refine x_l 14 rfl rfl rfl ?_
  refine x_s 15 rfl rfl rfl ?_
  exact x_ri rfl (Or.inl rfl) h

theorem bk_Fo_placeOf_20 {k : Nat} {pa pb : Nat} {ga : Nat → Nat} {I : pm_II} {J : pm_JJ} {Q : Option Value → pm_H → Prop} {x1 : Int32} {x2 : Int32} {s0 : Int32} (h : (((s0 / 2) ≤ x2 → Px k 176 m_Fo_leaves 0 [.ref 29] [] (hp I J (pm_RT pa pb ga)) (fun r h' => h'.1 = 176 ∧ Px (k + 1) 176 m_Fo_placeOf 42 [.ref 29, .int x1, .int x2, .int (s0 / 2)] (r.toList ++ [.int (I 29 11)]) h' Q)) ∧ (¬ ((s0 / 2) ≤ x2) → Q (some (.int ((x1 * (s0 / 2)) + x2))) (hp I J (pm_RT pa pb ga))))) : Px (k + 1) 176 m_Fo_placeOf 20 [.ref 29, .int x1, .int x2, .null] [.int s0] (hp I J (pm_RT pa pb ga)) Q := by
  refine z_k 21 2 rfl (by decide) rfl ?_
  refine x_dv 22 rfl (by decide) rfl ?_
  refine x_t 23 rfl rfl rfl ?_
  refine x_l 24 rfl rfl rfl ?_
  refine x_l 25 rfl rfl rfl ?_
  refine x_b 28 rfl rfl rfl (fun c => ?_) (fun c => ?_)
  · have h := h.1 c
    refine x_l 35 rfl rfl rfl ?_
    refine z_gf 38 (.int (I 29 11)) rfl ⟨rfl, rfl, rfl⟩ rfl rfl ?_
    refine x_l 39 rfl rfl rfl ?_
    exact z_cv (As := []) (rest := [.int (I 29 11)]) (b := 29) rfl at_Fo_leaves rfl rfl (Nat.le_of_ble_eq_true rfl) (Nat.le_of_ble_eq_true rfl) ⟨rfl, rfl, rfl⟩ (by decide) rfl h
  · have h := h.2 c
    refine x_l 29 rfl rfl rfl ?_
    refine x_l 30 rfl rfl rfl ?_
    refine x_s 31 rfl rfl rfl ?_
    refine x_l 32 rfl rfl rfl ?_
    refine x_s 33 rfl rfl rfl ?_
    exact x_ri rfl (Or.inl rfl) h

theorem bk_Fo_placeOf_42 {k : Nat} {pa pb : Nat} {ga : Nat → Nat} {I : pm_II} {J : pm_JJ} {Q : Option Value → pm_H → Prop} {x1 : Int32} {x2 : Int32} {x3 : Int32} {s0 : Int32} {s1 : Int32} (h : Px k 176 m_Fo_leaves 0 [.ref 29] [] (hp I J (pm_RT pa pb ga)) (fun r h' => h'.1 = 176 ∧ Px (k + 1) 176 m_Fo_placeOf 50 [.ref 29, .int x1, .int x2, .int x3] (r.toList ++ [.int (x1 + (1 : Int32)), .int (s0 * s1)]) h' Q)) : Px (k + 1) 176 m_Fo_placeOf 42 [.ref 29, .int x1, .int x2, .int x3] [.int s1, .int s0] (hp I J (pm_RT pa pb ga)) Q := by
  refine x_s 43 rfl rfl rfl ?_
  refine x_l 44 rfl rfl rfl ?_
  refine z_k 45 1 rfl (by decide) rfl ?_
  refine x_s 46 rfl rfl rfl ?_
  refine x_l 47 rfl rfl rfl ?_
  exact z_cv (As := []) (rest := [.int (x1 + (1 : Int32)), .int (s0 * s1)]) (b := 29) rfl at_Fo_leaves rfl rfl (Nat.le_of_ble_eq_true rfl) (Nat.le_of_ble_eq_true rfl) ⟨rfl, rfl, rfl⟩ (by decide) rfl h

theorem bk_Fo_placeOf_50 {k : Nat} {pa pb : Nat} {ga : Nat → Nat} {I : pm_II} {J : pm_JJ} {Q : Option Value → pm_H → Prop} {x1 : Int32} {x2 : Int32} {x3 : Int32} {s0 : Int32} {s1 : Int32} {s2 : Int32} (h : Q (some (.int (((s0 - (s1 * (s2 - x3))) + x2) - x3))) (hp I J (pm_RT pa pb ga))) : Px (k + 1) 176 m_Fo_placeOf 50 [.ref 29, .int x1, .int x2, .int x3] [.int s2, .int s1, .int s0] (hp I J (pm_RT pa pb ga)) Q := by
  refine x_l 51 rfl rfl rfl ?_
  refine x_s 52 rfl rfl rfl ?_
  refine x_s 53 rfl rfl rfl ?_
  refine x_s 54 rfl rfl rfl ?_
  refine x_l 55 rfl rfl rfl ?_
  refine x_s 56 rfl rfl rfl ?_
  refine x_l 57 rfl rfl rfl ?_
  refine x_s 58 rfl rfl rfl ?_
  exact x_ri rfl (Or.inl rfl) h

theorem bk_Fo_isUpsideDown_0 {k : Nat} {pa pb : Nat} {ga : Nat → Nat} {I : pm_II} {J : pm_JJ} {Q : Option Value → pm_H → Prop} {x1 : Int32} {x2 : Int32} (h : Px k 176 m_Fo_isPanel 0 [.ref 29, .int x1, .int x2] [] (hp I J (pm_RT pa pb ga)) (fun r h' => h'.1 = 176 ∧ Px (k + 1) 176 m_Fo_isUpsideDown 6 [.ref 29, .int x1, .int x2] (r.toList ++ []) h' Q)) : Px (k + 1) 176 m_Fo_isUpsideDown 0 [.ref 29, .int x1, .int x2] [] (hp I J (pm_RT pa pb ga)) Q := by
  refine x_l 1 rfl rfl rfl ?_
  refine x_l 2 rfl rfl rfl ?_
  refine x_l 3 rfl rfl rfl ?_
  exact z_cv (As := [.int x1, .int x2]) (rest := []) (b := 29) rfl at_Fo_isPanel rfl rfl (Nat.le_of_ble_eq_true rfl) (Nat.le_of_ble_eq_true rfl) ⟨rfl, rfl, rfl⟩ (by decide) rfl h

theorem bk_Fo_isUpsideDown_6 {k : Nat} {pa pb : Nat} {ga : Nat → Nat} {I : pm_II} {J : pm_JJ} {Q : Option Value → pm_H → Prop} {x1 : Int32} {x2 : Int32} {s0 : Int32} (h : ((s0 = 0 → Q (some (.int 0)) (hp I J (pm_RT pa pb ga))) ∧ (¬ (s0 = 0) → vp_in ((x1 * (I 29 7)) + x2) 64 ∧ ((¬ (I 35 ((((x1 * (I 29 7)) + x2) : Int32).toNatClampNeg)) = 1 → Q (some (.int 0)) (hp I J (pm_RT pa pb ga))) ∧ (¬ (¬ (I 35 ((((x1 * (I 29 7)) + x2) : Int32).toNatClampNeg)) = 1) → Q (some (.int 1)) (hp I J (pm_RT pa pb ga))))))) : Px (k + 1) 176 m_Fo_isUpsideDown 6 [.ref 29, .int x1, .int x2] [.int s0] (hp I J (pm_RT pa pb ga)) Q := by
  refine x_b 9 rfl rfl rfl (fun c => ?_) (fun c => ?_)
  · have h := h.1 c
    refine z_k 31 0 rfl (by decide) rfl ?_
    exact x_ri rfl (Or.inr ⟨rfl, Or.inl rfl⟩) h
  · have h := h.2 c
    refine x_l 10 rfl rfl rfl ?_
    refine z_gf 13 (.ref 35) rfl ⟨rfl, rfl, rfl⟩ rfl rfl ?_
    refine x_l 14 rfl rfl rfl ?_
    refine x_l 15 rfl rfl rfl ?_
    refine z_gf 18 (.int (I 29 7)) rfl ⟨rfl, rfl, rfl⟩ rfl rfl ?_
    refine x_s 19 rfl rfl rfl ?_
    refine x_l 20 rfl rfl rfl ?_
    refine x_s 21 rfl rfl rfl ?_
    have h1 := h.1
    have h := h.2
    refine z_il 22 64 rfl ⟨rfl, rfl, rfl⟩ rfl h1 rfl ?_
    refine z_k 23 1 rfl (by decide) rfl ?_
    refine x_b 26 rfl rfl rfl (fun c => ?_) (fun c => ?_)
    · have h := h.1 c
      refine z_k 31 0 rfl (by decide) rfl ?_
      exact x_ri rfl (Or.inr ⟨rfl, Or.inl rfl⟩) h
    · have h := h.2 c
      refine z_k 27 1 rfl (by decide) rfl ?_
      refine x_g rfl ?_
      exact x_ri rfl (Or.inr ⟨rfl, Or.inr rfl⟩) h

theorem bk_Fo_find_0 {k : Nat} {pa pb : Nat} {ga : Nat → Nat} {I : pm_II} {J : pm_JJ} {Q : Option Value → pm_H → Prop} {x1 : Int32} {x2 : Int32} (h : Px k 176 m_Fo_leaves 0 [.ref 29] [] (hp I J (pm_RT pa pb ga)) (fun r h' => h'.1 = 176 ∧ Px (k + 1) 176 m_Fo_find 8 [.ref 29, .int x1, .int x2, .null, .null, .null, .null] (r.toList ++ [.int (I 29 11)]) h' Q)) : Px (k + 1) 176 m_Fo_find 0 [.ref 29, .int x1, .int x2, .null, .null, .null, .null] [] (hp I J (pm_RT pa pb ga)) Q := by
  refine x_l 1 rfl rfl rfl ?_
  refine z_gf 4 (.int (I 29 11)) rfl ⟨rfl, rfl, rfl⟩ rfl rfl ?_
  refine x_l 5 rfl rfl rfl ?_
  exact z_cv (As := []) (rest := [.int (I 29 11)]) (b := 29) rfl at_Fo_leaves rfl rfl (Nat.le_of_ble_eq_true rfl) (Nat.le_of_ble_eq_true rfl) ⟨rfl, rfl, rfl⟩ (by decide) rfl h

theorem bk_Fo_find_8 {k : Nat} {pa pb : Nat} {ga : Nat → Nat} {I : pm_II} {J : pm_JJ} {Q : Option Value → pm_H → Prop} {x1 : Int32} {x2 : Int32} {s0 : Int32} {s1 : Int32} (h : ((x1 < 0 → Q (some (.int (-1))) (hp I J (pm_RT pa pb ga))) ∧ (¬ (x1 < 0) → ((((s0 * s1) * (2 : Int32)) ≤ x1 → Q (some (.int (-1))) (hp I J (pm_RT pa pb ga))) ∧ (¬ (((s0 * s1) * (2 : Int32)) ≤ x1) → ((x2 < 0 → Q (some (.int (-1))) (hp I J (pm_RT pa pb ga))) ∧ (¬ (x2 < 0) → ((x2 ≤ 4 → ((¬ x2 = 4 → Px (k + 1) 176 m_Fo_find 62 [.ref 29, .int x1, .int x2, .int (s0 * s1), .int (x1 / 2), .int 0, .null] [] (hp I J (pm_RT pa pb ga)) Q) ∧ (¬ (¬ x2 = 4) → Px k 176 m_Jm_min_II 0 [.int (x1 / 2), .int (((s0 * s1) - (1 : Int32)) - (x1 / 2))] [] (hp I J (pm_RT pa pb ga)) (fun r h' => h'.1 = 176 ∧ Px (k + 1) 176 m_Fo_find 57 [.ref 29, .int x1, .int x2, .int (s0 * s1), .int (x1 / 2), .null, .null] (r.toList ++ [.int (I 29 13)]) h' Q)))) ∧ (¬ (x2 ≤ 4) → Q (some (.int (-1))) (hp I J (pm_RT pa pb ga))))))))))) : Px (k + 1) 176 m_Fo_find 8 [.ref 29, .int x1, .int x2, .null, .null, .null, .null] [.int s1, .int s0] (hp I J (pm_RT pa pb ga)) Q := by
  refine x_s 9 rfl rfl rfl ?_
  refine x_t 10 rfl rfl rfl ?_
  refine x_l 11 rfl rfl rfl ?_
  refine x_b 14 rfl rfl rfl (fun c => ?_) (fun c => ?_)
  · have h := h.1 c
    refine z_k 31 (-1) rfl (by decide) rfl ?_
    exact x_ri rfl (Or.inl rfl) h
  · have h := h.2 c
    refine x_l 15 rfl rfl rfl ?_
    refine x_l 16 rfl rfl rfl ?_
    refine z_k 17 2 rfl (by decide) rfl ?_
    refine x_s 18 rfl rfl rfl ?_
    refine x_b 21 rfl rfl rfl (fun c => ?_) (fun c => ?_)
    · have h := h.1 c
      refine z_k 31 (-1) rfl (by decide) rfl ?_
      exact x_ri rfl (Or.inl rfl) h
    · have h := h.2 c
      refine x_l 22 rfl rfl rfl ?_
      refine x_b 25 rfl rfl rfl (fun c => ?_) (fun c => ?_)
      · have h := h.1 c
        refine z_k 31 (-1) rfl (by decide) rfl ?_
        exact x_ri rfl (Or.inl rfl) h
      · have h := h.2 c
        refine x_l 26 rfl rfl rfl ?_
        refine z_k 27 4 rfl (by decide) rfl ?_
        refine x_b 30 rfl rfl rfl (fun c => ?_) (fun c => ?_)
        · have h := h.1 c
          refine x_l 33 rfl rfl rfl ?_
          refine z_k 34 2 rfl (by decide) rfl ?_
          refine x_dv 35 rfl (by decide) rfl ?_
          refine x_t 37 rfl rfl rfl ?_
          refine x_l 38 rfl rfl rfl ?_
          refine z_k 39 4 rfl (by decide) rfl ?_
          refine x_b 42 rfl rfl rfl (fun c => ?_) (fun c => ?_)
          · have h := h.1 c
            refine z_k 60 0 rfl (by decide) rfl ?_
            refine x_t 62 rfl rfl rfl ?_
            exact h
          · have h := h.2 c
            refine x_l 43 rfl rfl rfl ?_
            refine z_gf 46 (.int (I 29 13)) rfl ⟨rfl, rfl, rfl⟩ rfl rfl ?_
            refine x_l 48 rfl rfl rfl ?_
            refine x_l 49 rfl rfl rfl ?_
            refine z_k 50 1 rfl (by decide) rfl ?_
            refine x_s 51 rfl rfl rfl ?_
            refine x_l 53 rfl rfl rfl ?_
            refine x_s 54 rfl rfl rfl ?_
            exact z_cs (As := [.int (x1 / 2), .int (((s0 * s1) - (1 : Int32)) - (x1 / 2))]) (rest := [.int (I 29 13)]) rfl at_Jm_min_II rfl rfl (Nat.le_of_ble_eq_true rfl) (Nat.le_of_ble_eq_true rfl) rfl h
        · have h := h.2 c
          refine z_k 31 (-1) rfl (by decide) rfl ?_
          exact x_ri rfl (Or.inl rfl) h

theorem bk_Fo_find_57 {k : Nat} {pa pb : Nat} {ga : Nat → Nat} {I : pm_II} {J : pm_JJ} {Q : Option Value → pm_H → Prop} {x1 : Int32} {x2 : Int32} {x3 : Int32} {x4 : Int32} {s0 : Int32} {s1 : Int32} (h : Q (some (.int (s0 * s1))) (hp I J (pm_RT pa pb ga))) : Px (k + 1) 176 m_Fo_find 57 [.ref 29, .int x1, .int x2, .int x3, .int x4, .null, .null] [.int s1, .int s0] (hp I J (pm_RT pa pb ga)) Q := by
  refine x_s 58 rfl rfl rfl ?_
  exact x_ri rfl (Or.inl rfl) h

theorem bk_Fo_find_62 {k : Nat} {pa pb : Nat} {ga : Nat → Nat} {I : pm_II} {J : pm_JJ} {Q : Option Value → pm_H → Prop} {x1 : Int32} {x2 : Int32} {x3 : Int32} {x4 : Int32} {x5 : Int32} (h : (((I 29 11) ≤ x5 → Q (some (.int (-1))) (hp I J (pm_RT pa pb ga))) ∧ (¬ ((I 29 11) ≤ x5) → Px (k + 1) 176 m_Fo_find 74 [.ref 29, .int x1, .int x2, .int x3, .int x4, .int x5, .int 0] [] (hp I J (pm_RT pa pb ga)) Q))) : Px (k + 1) 176 m_Fo_find 62 [.ref 29, .int x1, .int x2, .int x3, .int x4, .int x5, .null] [] (hp I J (pm_RT pa pb ga)) Q := by
  refine x_l 64 rfl rfl rfl ?_
  refine x_l 65 rfl rfl rfl ?_
  refine z_gf 68 (.int (I 29 11)) rfl ⟨rfl, rfl, rfl⟩ rfl rfl ?_
  refine x_b 71 rfl rfl rfl (fun c => ?_) (fun c => ?_)
  · have h := h.1 c
    refine z_k 134 (-1) rfl (by decide) rfl ?_
    exact x_ri rfl (Or.inl rfl) h
  · have h := h.2 c
    refine z_k 72 0 rfl (by decide) rfl ?_
    refine x_t 74 rfl rfl rfl ?_
    exact h

theorem bk_Fo_find_74 {k : Nat} {pa pb : Nat} {ga : Nat → Nat} {I : pm_II} {J : pm_JJ} {Q : Option Value → pm_H → Prop} {x1 : Int32} {x2 : Int32} {x3 : Int32} {x4 : Int32} {x5 : Int32} {x6 : Int32} (h : Px k 176 m_Fo_leaves 0 [.ref 29] [] (hp I J (pm_RT pa pb ga)) (fun r h' => h'.1 = 176 ∧ Px (k + 1) 176 m_Fo_find 80 [.ref 29, .int x1, .int x2, .int x3, .int x4, .int x5, .int x6] (r.toList ++ [.int x6]) h' Q)) : Px (k + 1) 176 m_Fo_find 74 [.ref 29, .int x1, .int x2, .int x3, .int x4, .int x5, .int x6] [] (hp I J (pm_RT pa pb ga)) Q := by
  refine x_l 76 rfl rfl rfl ?_
  refine x_l 77 rfl rfl rfl ?_
  exact z_cv (As := []) (rest := [.int x6]) (b := 29) rfl at_Fo_leaves rfl rfl (Nat.le_of_ble_eq_true rfl) (Nat.le_of_ble_eq_true rfl) ⟨rfl, rfl, rfl⟩ (by decide) rfl h

theorem bk_Fo_find_80 {k : Nat} {pa pb : Nat} {ga : Nat → Nat} {I : pm_II} {J : pm_JJ} {Q : Option Value → pm_H → Prop} {x1 : Int32} {x2 : Int32} {x3 : Int32} {x4 : Int32} {x5 : Int32} {x6 : Int32} {s0 : Int32} {s1 : Int32} (h : ((s1 ≤ s0 → Px (k + 1) 176 m_Fo_find 127 [.ref 29, .int x1, .int x2, .int x3, .int x4, .int x5, .int x6] [] (hp I J (pm_RT pa pb ga)) Q) ∧ (¬ (s1 ≤ s0) → ((64 ≤ x6 → Px (k + 1) 176 m_Fo_find 127 [.ref 29, .int x1, .int x2, .int x3, .int x4, .int x5, .int x6] [] (hp I J (pm_RT pa pb ga)) Q) ∧ (¬ (64 ≤ x6) → Px k 176 m_Fo_placeOf 0 [.ref 29, .int x5, .int x6, .null] [] (hp I J (pm_RT pa pb ga)) (fun r h' => h'.1 = 176 ∧ Px (k + 1) 176 m_Fo_find 98 [.ref 29, .int x1, .int x2, .int x3, .int x4, .int x5, .int x6] (r.toList ++ []) h' Q)))))) : Px (k + 1) 176 m_Fo_find 80 [.ref 29, .int x1, .int x2, .int x3, .int x4, .int x5, .int x6] [.int s1, .int s0] (hp I J (pm_RT pa pb ga)) Q := by
  refine x_b 83 rfl rfl rfl (fun c => ?_) (fun c => ?_)
  · have h := h.1 c
    exact h
  · have h := h.2 c
    refine x_l 85 rfl rfl rfl ?_
    refine z_k 87 64 rfl (by decide) rfl ?_
    refine x_b 90 rfl rfl rfl (fun c => ?_) (fun c => ?_)
    · have h := h.1 c
      exact h
    · have h := h.2 c
      refine x_l 91 rfl rfl rfl ?_
      refine x_l 93 rfl rfl rfl ?_
      refine x_l 95 rfl rfl rfl ?_
      exact z_cv (As := [.int x5, .int x6]) (rest := []) (b := 29) rfl at_Fo_placeOf rfl rfl (Nat.le_of_ble_eq_true rfl) (Nat.le_of_ble_eq_true rfl) ⟨rfl, rfl, rfl⟩ (by decide) rfl h

theorem bk_Fo_find_98 {k : Nat} {pa pb : Nat} {ga : Nat → Nat} {I : pm_II} {J : pm_JJ} {Q : Option Value → pm_H → Prop} {x1 : Int32} {x2 : Int32} {x3 : Int32} {x4 : Int32} {x5 : Int32} {x6 : Int32} {s0 : Int32} (h : ((¬ s0 = x4 → Px (k + 1) 176 m_Fo_find 74 [.ref 29, .int x1, .int x2, .int x3, .int x4, .int x5, .int (x6 + Int32.ofInt 1)] [] (hp I J (pm_RT pa pb ga)) Q) ∧ (¬ (¬ s0 = x4) → vp_in x6 64 ∧ Px k 176 m_Fo_tellPanel 0 [.ref 29, .int x5, .int (I 31 ((x6 : Int32).toNatClampNeg)), .int (x1 - x1 / 2 * 2), .int x2] [] (hp I J (pm_RT pa pb ga)) (fun r h' => h'.1 = 176 ∧ Px (k + 1) 176 m_Fo_find 120 [.ref 29, .int x1, .int x2, .int x3, .int x4, .int x5, .int x6] (r.toList ++ []) h' Q)))) : Px (k + 1) 176 m_Fo_find 98 [.ref 29, .int x1, .int x2, .int x3, .int x4, .int x5, .int x6] [.int s0] (hp I J (pm_RT pa pb ga)) Q := by
  refine x_l 100 rfl rfl rfl ?_
  refine x_b 103 rfl rfl rfl (fun c => ?_) (fun c => ?_)
  · have h := h.1 c
    refine x_t 124 rfl rfl rfl ?_
    refine x_g rfl ?_
    exact h
  · have h := h.2 c
    refine x_l 104 rfl rfl rfl ?_
    refine x_l 106 rfl rfl rfl ?_
    refine x_l 107 rfl rfl rfl ?_
    refine z_gf 110 (.ref 31) rfl ⟨rfl, rfl, rfl⟩ rfl rfl ?_
    refine x_l 112 rfl rfl rfl ?_
    have h1 := h.1
    have h := h.2
    refine z_il 113 64 rfl ⟨rfl, rfl, rfl⟩ rfl h1 rfl ?_
    refine x_l 114 rfl rfl rfl ?_
    refine z_k 115 2 rfl (by decide) rfl ?_
    refine x_rm 116 rfl (by decide) rfl ?_
    refine x_l 117 rfl rfl rfl ?_
    exact z_cv (As := [.int x5, .int (I 31 ((x6 : Int32).toNatClampNeg)), .int (x1 - x1 / 2 * 2), .int x2]) (rest := []) (b := 29) rfl at_Fo_tellPanel rfl rfl (Nat.le_of_ble_eq_true rfl) (Nat.le_of_ble_eq_true rfl) ⟨rfl, rfl, rfl⟩ (by decide) rfl h

theorem bk_Fo_find_120 {k : Nat} {pa pb : Nat} {ga : Nat → Nat} {I : pm_II} {J : pm_JJ} {Q : Option Value → pm_H → Prop} {x1 : Int32} {x2 : Int32} {x3 : Int32} {x4 : Int32} {x5 : Int32} {x6 : Int32} {s0 : Int32} (h : Q (some (.int s0)) (hp I J (pm_RT pa pb ga))) : Px (k + 1) 176 m_Fo_find 120 [.ref 29, .int x1, .int x2, .int x3, .int x4, .int x5, .int x6] [.int s0] (hp I J (pm_RT pa pb ga)) Q := by
  exact x_ri rfl (Or.inl rfl) h

theorem bk_Fo_find_127 {k : Nat} {pa pb : Nat} {ga : Nat → Nat} {I : pm_II} {J : pm_JJ} {Q : Option Value → pm_H → Prop} {x1 : Int32} {x2 : Int32} {x3 : Int32} {x4 : Int32} {x5 : Int32} {x6 : Int32} (h : Px (k + 1) 176 m_Fo_find 62 [.ref 29, .int x1, .int x2, .int x3, .int x4, .int (x5 + Int32.ofInt 1), .int x6] [] (hp I J (pm_RT pa pb ga)) Q) : Px (k + 1) 176 m_Fo_find 127 [.ref 29, .int x1, .int x2, .int x3, .int x4, .int x5, .int x6] [] (hp I J (pm_RT pa pb ga)) Q := by
  refine x_t 130 rfl rfl rfl ?_
  refine x_g rfl ?_
  exact h

theorem bk_Fo_tellPanel_0 {k : Nat} {pa pb : Nat} {ga : Nat → Nat} {I : pm_II} {J : pm_JJ} {Q : Option Value → pm_H → Prop} {x1 : Int32} {x2 : Int32} {x3 : Int32} {x4 : Int32} (h : ((x2 < 0 → Q (some (.int (-1))) (hp I J (pm_RT pa pb ga))) ∧ (¬ (x2 < 0) → ((64 ≤ x2 → Q (some (.int (-1))) (hp I J (pm_RT pa pb ga))) ∧ (¬ (64 ≤ x2) → ((1 ≤ (I 29 7) → ((x4 = nI 0 → Q (some (.int x1)) (hp I J (pm_RT pa pb ga))) ∧ (x4 = nI 1 → vp_in x2 64 ∧ Q (some (.int (x3 ^^^ (I 34 ((x2 : Int32).toNatClampNeg))))) (hp I J (pm_RT pa pb ga))) ∧ (x4 = nI 2 → ¬ (I 29 7) = 0 ∧ Q (some (.int (x2 / (I 29 7)))) (hp I J (pm_RT pa pb ga))) ∧ (x4 = nI 3 → ¬ (I 29 7) = 0 ∧ Q (some (.int (x2 - x2 / (I 29 7) * (I 29 7)))) (hp I J (pm_RT pa pb ga))) ∧ ((x4 < 0 ∨ nI 3 < x4) → Q (some (.int (-1))) (hp I J (pm_RT pa pb ga))))) ∧ (¬ (1 ≤ (I 29 7)) → Q (some (.int (-1))) (hp I J (pm_RT pa pb ga))))))))) : Px k 176 m_Fo_tellPanel 0 [.ref 29, .int x1, .int x2, .int x3, .int x4] [] (hp I J (pm_RT pa pb ga)) Q := by
  refine x_l 1 rfl rfl rfl ?_
  refine x_b 4 rfl rfl rfl (fun c => ?_) (fun c => ?_)
  · have h := h.1 c
    refine z_k 19 (-1) rfl (by decide) rfl ?_
    exact x_ri rfl (Or.inl rfl) h
  · have h := h.2 c
    refine x_l 5 rfl rfl rfl ?_
    refine z_k 7 64 rfl (by decide) rfl ?_
    refine x_b 10 rfl rfl rfl (fun c => ?_) (fun c => ?_)
    · have h := h.1 c
      refine z_k 19 (-1) rfl (by decide) rfl ?_
      exact x_ri rfl (Or.inl rfl) h
    · have h := h.2 c
      refine x_l 11 rfl rfl rfl ?_
      refine z_gf 14 (.int (I 29 7)) rfl ⟨rfl, rfl, rfl⟩ rfl rfl ?_
      refine z_k 15 1 rfl (by decide) rfl ?_
      refine x_b 18 rfl rfl rfl (fun c => ?_) (fun c => ?_)
      · have h := h.1 c
        refine x_l 22 rfl rfl rfl ?_
        refine z_sw 3 (dt := 77) rfl rfl (by decide) (fun i hi e => ?_) (fun c => ?_)
        · match i, hi with
          | 0, _ =>
            refine ⟨_, 52, rfl, rfl, ?_⟩
            have h := h.1 e
            refine x_l 53 rfl rfl rfl ?_
            exact x_ri rfl (Or.inl rfl) h
          | 1, _ =>
            refine ⟨_, 54, rfl, rfl, ?_⟩
            have h := h.2.1 e
            refine x_l 55 rfl rfl rfl ?_
            refine x_l 56 rfl rfl rfl ?_
            refine z_gf 59 (.ref 34) rfl ⟨rfl, rfl, rfl⟩ rfl rfl ?_
            refine x_l 60 rfl rfl rfl ?_
            have h1 := h.1
            have h := h.2
            refine z_il 61 64 rfl ⟨rfl, rfl, rfl⟩ rfl h1 rfl ?_
            refine x_s 62 rfl rfl rfl ?_
            exact x_ri rfl (Or.inl rfl) h
          | 2, _ =>
            refine ⟨_, 63, rfl, rfl, ?_⟩
            have h := h.2.2.1 e
            refine x_l 64 rfl rfl rfl ?_
            refine x_l 65 rfl rfl rfl ?_
            refine z_gf 68 (.int (I 29 7)) rfl ⟨rfl, rfl, rfl⟩ rfl rfl ?_
            have h0 := h.1
            have h := h.2
            refine x_dv 69 rfl h0 rfl ?_
            exact x_ri rfl (Or.inl rfl) h
          | 3, _ =>
            refine ⟨_, 70, rfl, rfl, ?_⟩
            have h := h.2.2.2.1 e
            refine x_l 71 rfl rfl rfl ?_
            refine x_l 72 rfl rfl rfl ?_
            refine z_gf 75 (.int (I 29 7)) rfl ⟨rfl, rfl, rfl⟩ rfl rfl ?_
            have h0 := h.1
            have h := h.2
            refine x_rm 76 rfl h0 rfl ?_
            exact x_ri rfl (Or.inl rfl) h
          | n + 4, hi => exact absurd hi (by omega)
        · have h := h.2.2.2.2 c
          refine z_k 78 (-1) rfl (by decide) rfl ?_
          exact x_ri rfl (Or.inl rfl) h
      · have h := h.2 c
        refine z_k 19 (-1) rfl (by decide) rfl ?_
        exact x_ri rfl (Or.inl rfl) h

theorem bk_Fo_columns_0 {k : Nat} {pa pb : Nat} {ga : Nat → Nat} {I : pm_II} {J : pm_JJ} {Q : Option Value → pm_H → Prop} (h : Q (some (.int (I 29 7))) (hp I J (pm_RT pa pb ga))) : Px k 176 m_Fo_columns 0 [.ref 29] [] (hp I J (pm_RT pa pb ga)) Q := by
  refine x_l 1 rfl rfl rfl ?_
  refine z_gf 4 (.int (I 29 7)) rfl ⟨rfl, rfl, rfl⟩ rfl rfl ?_
  exact x_ri rfl (Or.inl rfl) h

theorem bk_Fo_rows_0 {k : Nat} {pa pb : Nat} {ga : Nat → Nat} {I : pm_II} {J : pm_JJ} {Q : Option Value → pm_H → Prop} (h : Q (some (.int (I 29 6))) (hp I J (pm_RT pa pb ga))) : Px k 176 m_Fo_rows 0 [.ref 29] [] (hp I J (pm_RT pa pb ga)) Q := by
  refine x_l 1 rfl rfl rfl ?_
  refine z_gf 4 (.int (I 29 6)) rfl ⟨rfl, rfl, rfl⟩ rfl rfl ?_
  exact x_ri rfl (Or.inl rfl) h

theorem bk_Fo_sheets_0 {k : Nat} {pa pb : Nat} {ga : Nat → Nat} {I : pm_II} {J : pm_JJ} {Q : Option Value → pm_H → Prop} (h : Q (some (.int (I 29 11))) (hp I J (pm_RT pa pb ga))) : Px k 176 m_Fo_sheets 0 [.ref 29] [] (hp I J (pm_RT pa pb ga)) Q := by
  refine x_l 1 rfl rfl rfl ?_
  refine z_gf 4 (.int (I 29 11)) rfl ⟨rfl, rfl, rfl⟩ rfl rfl ?_
  exact x_ri rfl (Or.inl rfl) h

theorem bk_Ro_inPlan_0 {k : Nat} {pa pb : Nat} {ga : Nat → Nat} {I : pm_II} {J : pm_JJ} {Q : Option Value → pm_H → Prop} (h : Q (some (.int (I 19 12))) (hp I J (pm_RT pa pb ga))) : Px k 176 m_Ro_inPlan 0 [.ref 19] [] (hp I J (pm_RT pa pb ga)) Q := by
  refine x_l 1 rfl rfl rfl ?_
  refine z_gf 4 (.int (I 19 12)) rfl ⟨rfl, rfl, rfl⟩ rfl rfl ?_
  exact x_ri rfl (Or.inl rfl) h

theorem bk_Ro_lostInAll_0 {k : Nat} {pa pb : Nat} {ga : Nat → Nat} {I : pm_II} {J : pm_JJ} {Q : Option Value → pm_H → Prop} (h : Px (k + 1) 176 m_Ro_lostInAll 4 [.ref 19, .int 0, .int 0] [] (hp I J (pm_RT pa pb ga)) Q) : Px (k + 1) 176 m_Ro_lostInAll 0 [.ref 19, .null, .null] [] (hp I J (pm_RT pa pb ga)) Q := by
  refine z_k 1 0 rfl (by decide) rfl ?_
  refine x_t 2 rfl rfl rfl ?_
  refine z_k 3 0 rfl (by decide) rfl ?_
  refine x_t 4 rfl rfl rfl ?_
  exact h

theorem bk_Ro_lostInAll_4 {k : Nat} {pa pb : Nat} {ga : Nat → Nat} {I : pm_II} {J : pm_JJ} {Q : Option Value → pm_H → Prop} {x1 : Int32} {x2 : Int32} (h : (((I 19 12) ≤ x2 → Q (some (.int x1)) (hp I J (pm_RT pa pb ga))) ∧ (¬ ((I 19 12) ≤ x2) → Px k 176 m_Ro_lostOf 0 [.ref 19, .int x2, .null, .null] [] (hp I J (pm_RT pa pb ga)) (fun r h' => h'.1 = 176 ∧ Px (k + 1) 176 m_Ro_lostInAll 18 [.ref 19, .int x1, .int x2] (r.toList ++ [.int x1]) h' Q)))) : Px (k + 1) 176 m_Ro_lostInAll 4 [.ref 19, .int x1, .int x2] [] (hp I J (pm_RT pa pb ga)) Q := by
  refine x_l 5 rfl rfl rfl ?_
  refine x_l 6 rfl rfl rfl ?_
  refine z_gf 9 (.int (I 19 12)) rfl ⟨rfl, rfl, rfl⟩ rfl rfl ?_
  refine x_b 12 rfl rfl rfl (fun c => ?_) (fun c => ?_)
  · have h := h.1 c
    refine x_l 27 rfl rfl rfl ?_
    exact x_ri rfl (Or.inl rfl) h
  · have h := h.2 c
    refine x_l 13 rfl rfl rfl ?_
    refine x_l 14 rfl rfl rfl ?_
    refine x_l 15 rfl rfl rfl ?_
    exact z_cv (As := [.int x2]) (rest := [.int x1]) (b := 19) rfl at_Ro_lostOf rfl rfl (Nat.le_of_ble_eq_true rfl) (Nat.le_of_ble_eq_true rfl) ⟨rfl, rfl, rfl⟩ (by decide) rfl h

theorem bk_Ro_lostInAll_18 {k : Nat} {pa pb : Nat} {ga : Nat → Nat} {I : pm_II} {J : pm_JJ} {Q : Option Value → pm_H → Prop} {x1 : Int32} {x2 : Int32} {s0 : Int32} {s1 : Int32} (h : Px (k + 1) 176 m_Ro_lostInAll 4 [.ref 19, .int (s0 + s1), .int (x2 + Int32.ofInt 1)] [] (hp I J (pm_RT pa pb ga)) Q) : Px (k + 1) 176 m_Ro_lostInAll 18 [.ref 19, .int x1, .int x2] [.int s1, .int s0] (hp I J (pm_RT pa pb ga)) Q := by
  refine x_s 19 rfl rfl rfl ?_
  refine x_t 20 rfl rfl rfl ?_
  refine x_t 23 rfl rfl rfl ?_
  refine x_g rfl ?_
  exact h
