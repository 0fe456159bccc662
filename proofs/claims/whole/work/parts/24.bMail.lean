theorem bk_Ma_takeText_0 {k : Nat} {pa pb : Nat} {ga : Nat → Nat} {I : pm_II} {J : pm_JJ} {Q : Option Value → pm_H → Prop} (h : Px (k + 1) 176 m_Ma_takeText 5 [.ref 89, .ref 17, .null] [] (hp (pm_up I 89 5 0) J (pm_RT pa pb ga)) Q) : Px (k + 1) 176 m_Ma_takeText 0 [.ref 89, .ref 17, .null] [] (hp I J (pm_RT pa pb ga)) Q := by
  refine x_l 1 rfl rfl rfl ?_
  refine z_k 2 0 rfl (by decide) rfl ?_
  refine z_pi 5 rfl (Or.inl rfl) rfl (fun z => by cases z) ⟨rfl, rfl, rfl⟩ rfl ?_
  exact h

theorem bk_Ma_takeText_5 {k : Nat} {pa pb : Nat} {ga : Nat → Nat} {I : pm_II} {J : pm_JJ} {Q : Option Value → pm_H → Prop} (h : Px k 176 m_Ma_readCode 0 [.ref 17, .null, .null, .null] [] (hp I J (pm_RT pa pb ga)) (fun r h' => h'.1 = 176 ∧ Px (k + 1) 176 m_Ma_takeText 17 [.ref 89, .ref 17, .null] (r.toList ++ [.int (I 89 5), .ref 93]) h' Q)) : Px (k + 1) 176 m_Ma_takeText 5 [.ref 89, .ref 17, .null] [] (hp I J (pm_RT pa pb ga)) Q := by
  refine x_l 6 rfl rfl rfl ?_
  refine z_gf 9 (.ref 93) rfl ⟨rfl, rfl, rfl⟩ rfl rfl ?_
  refine x_l 10 rfl rfl rfl ?_
  refine z_gf 13 (.int (I 89 5)) rfl ⟨rfl, rfl, rfl⟩ rfl rfl ?_
  refine x_l 14 rfl rfl rfl ?_
  exact z_cs (As := [.ref 17]) (rest := [.int (I 89 5), .ref 93]) rfl at_Ma_readCode rfl rfl (Nat.le_of_ble_eq_true rfl) (Nat.le_of_ble_eq_true rfl) rfl h

theorem bk_Ma_takeText_17 {k : Nat} {pa pb : Nat} {ga : Nat → Nat} {I : pm_II} {J : pm_JJ} {Q : Option Value → pm_H → Prop} {s1 : Int32} {s2 : Int32} (h : vp_in s1 40 ∧ Px k 176 m_Ta_expect 0 [.ref 17, .int 32] [] (hp (pm_up I 93 ((s1 : Int32).toNatClampNeg) s2) J (pm_RT pa pb ga)) (fun r h' => h'.1 = 176 ∧ Px (k + 1) 176 m_Ma_takeText 24 [.ref 89, .ref 17, .null] (r.toList ++ []) h' Q)) : Px (k + 1) 176 m_Ma_takeText 17 [.ref 89, .ref 17, .null] [.int s2, .int s1, .ref 93] (hp I J (pm_RT pa pb ga)) Q := by
  have h1 := h.1
  have h := h.2
  refine z_is 18 40 rfl ⟨rfl, rfl, rfl⟩ rfl h1 rfl ?_
  refine x_l 19 rfl rfl rfl ?_
  refine z_k 21 32 rfl (by decide) rfl ?_
  exact z_cv (As := [.int 32]) (rest := []) (b := 17) rfl at_Ta_expect rfl rfl (Nat.le_of_ble_eq_true rfl) (Nat.le_of_ble_eq_true rfl) ⟨rfl, rfl, rfl⟩ (by decide) rfl h

theorem bk_Ma_takeText_24 {k : Nat} {pa pb : Nat} {ga : Nat → Nat} {I : pm_II} {J : pm_JJ} {Q : Option Value → pm_H → Prop} (h : Px k 176 m_Ma_readName 0 [.ref 17, .null, .null, .null, .null, .null] [] (hp I J (pm_RT pa pb ga)) (fun r h' => h'.1 = 176 ∧ Px (k + 1) 176 m_Ma_takeText 36 [.ref 89, .ref 17, .null] (r.toList ++ [.int (I 89 5), .ref 94]) h' Q)) : Px (k + 1) 176 m_Ma_takeText 24 [.ref 89, .ref 17, .null] [] (hp I J (pm_RT pa pb ga)) Q := by
  refine x_l 25 rfl rfl rfl ?_
  refine z_gf 28 (.ref 94) rfl ⟨rfl, rfl, rfl⟩ rfl rfl ?_
  refine x_l 29 rfl rfl rfl ?_
  refine z_gf 32 (.int (I 89 5)) rfl ⟨rfl, rfl, rfl⟩ rfl rfl ?_
  refine x_l 33 rfl rfl rfl ?_
  exact z_cs (As := [.ref 17]) (rest := [.int (I 89 5), .ref 94]) rfl at_Ma_readName rfl rfl (Nat.le_of_ble_eq_true rfl) (Nat.le_of_ble_eq_true rfl) rfl h

theorem bk_Ma_takeText_36 {k : Nat} {pa pb : Nat} {ga : Nat → Nat} {I : pm_II} {J : pm_JJ} {Q : Option Value → pm_H → Prop} {s1 : Int32} {w2 : Int64} (h : vp_in s1 40 ∧ Px k 176 m_Ta_expect 0 [.ref 17, .int 10] [] (hp I (pm_up J 94 ((s1 : Int32).toNatClampNeg) w2) (pm_RT pa pb ga)) (fun r h' => h'.1 = 176 ∧ Px (k + 1) 176 m_Ma_takeText 43 [.ref 89, .ref 17, .null] (r.toList ++ []) h' Q)) : Px (k + 1) 176 m_Ma_takeText 36 [.ref 89, .ref 17, .null] [.long w2, .int s1, .ref 94] (hp I J (pm_RT pa pb ga)) Q := by
  have h1 := h.1
  have h := h.2
  refine z_js 37 40 rfl ⟨rfl, rfl, rfl⟩ rfl h1 rfl ?_
  refine x_l 38 rfl rfl rfl ?_
  refine z_k 40 10 rfl (by decide) rfl ?_
  exact z_cv (As := [.int 10]) (rest := []) (b := 17) rfl at_Ta_expect rfl rfl (Nat.le_of_ble_eq_true rfl) (Nat.le_of_ble_eq_true rfl) ⟨rfl, rfl, rfl⟩ (by decide) rfl h

theorem bk_Ma_takeText_43 {k : Nat} {pa pb : Nat} {ga : Nat → Nat} {I : pm_II} {J : pm_JJ} {Q : Option Value → pm_H → Prop} (h : ((40 ≤ ((I 89 5) + (1 : Int32)) → Px (k + 1) 176 m_Ma_takeText 69 [.ref 89, .ref 17, .null] [] (hp (pm_up I 89 5 ((I 89 5) + (1 : Int32))) J (pm_RT pa pb ga)) Q) ∧ (¬ (40 ≤ ((I 89 5) + (1 : Int32))) → Px k 176 m_Ta_hasMore 0 [.ref 17] [] (hp (pm_up I 89 5 ((I 89 5) + (1 : Int32))) J (pm_RT pa pb ga)) (fun r h' => h'.1 = 176 ∧ Px (k + 1) 176 m_Ma_takeText 66 [.ref 89, .ref 17, .null] (r.toList ++ []) h' Q)))) : Px (k + 1) 176 m_Ma_takeText 43 [.ref 89, .ref 17, .null] [] (hp I J (pm_RT pa pb ga)) Q := by
  refine x_l 44 rfl rfl rfl ?_
  refine x_s 45 rfl rfl rfl ?_
  refine z_gf 48 (.int (I 89 5)) rfl ⟨rfl, rfl, rfl⟩ rfl rfl ?_
  refine z_k 49 1 rfl (by decide) rfl ?_
  refine x_s 50 rfl rfl rfl ?_
  refine z_pi 53 rfl (Or.inl rfl) rfl (fun z => by cases z) ⟨rfl, rfl, rfl⟩ rfl ?_
  refine x_l 54 rfl rfl rfl ?_
  refine z_gf 57 (.int ((I 89 5) + (1 : Int32))) rfl ⟨rfl, rfl, rfl⟩ rfl rfl ?_
  refine z_k 59 40 rfl (by decide) rfl ?_
  refine x_b 62 rfl rfl rfl (fun c => ?_) (fun c => ?_)
  · have h := h.1 c
    exact h
  · have h := h.2 c
    refine x_l 63 rfl rfl rfl ?_
    exact z_cv (As := []) (rest := []) (b := 17) rfl at_Ta_hasMore rfl rfl (Nat.le_of_ble_eq_true rfl) (Nat.le_of_ble_eq_true rfl) ⟨rfl, rfl, rfl⟩ (by decide) rfl h

theorem bk_Ma_takeText_66 {k : Nat} {pa pb : Nat} {ga : Nat → Nat} {I : pm_II} {J : pm_JJ} {Q : Option Value → pm_H → Prop} {s0 : Int32} (h : ((¬ s0 = 0 → Px (k + 1) 176 m_Ma_takeText 5 [.ref 89, .ref 17, .null] [] (hp I J (pm_RT pa pb ga)) Q) ∧ (¬ (¬ s0 = 0) → Px (k + 1) 176 m_Ma_takeText 69 [.ref 89, .ref 17, .null] [] (hp I J (pm_RT pa pb ga)) Q))) : Px (k + 1) 176 m_Ma_takeText 66 [.ref 89, .ref 17, .null] [.int s0] (hp I J (pm_RT pa pb ga)) Q := by
  refine x_b 69 rfl rfl rfl (fun c => ?_) (fun c => ?_)
  · have h := h.1 c
    exact h
  · have h := h.2 c
    exact h

theorem bk_Ma_takeText_69 {k : Nat} {pa pb : Nat} {ga : Nat → Nat} {I : pm_II} {J : pm_JJ} {Q : Option Value → pm_H → Prop} (h : Px k 176 m_Ta_finish 0 [.ref 17] [] (hp I J (pm_RT pa pb ga)) (fun r h' => h'.1 = 176 ∧ Px (k + 1) 176 m_Ma_takeText 73 [.ref 89, .ref 17, .null] (r.toList ++ []) h' Q)) : Px (k + 1) 176 m_Ma_takeText 69 [.ref 89, .ref 17, .null] [] (hp I J (pm_RT pa pb ga)) Q := by
  refine x_l 70 rfl rfl rfl ?_
  exact z_cv (As := []) (rest := []) (b := 17) rfl at_Ta_finish rfl rfl (Nat.le_of_ble_eq_true rfl) (Nat.le_of_ble_eq_true rfl) ⟨rfl, rfl, rfl⟩ (by decide) rfl h

theorem bk_Ma_takeText_73 {k : Nat} {pa pb : Nat} {ga : Nat → Nat} {I : pm_II} {J : pm_JJ} {Q : Option Value → pm_H → Prop} (h : Px k 176 m_Ta_isRight 0 [.ref 17] [] (hp I J (pm_RT pa pb ga)) (fun r h' => h'.1 = 176 ∧ Px (k + 1) 176 m_Ma_takeText 77 [.ref 89, .ref 17, .null] (r.toList ++ []) h' Q)) : Px (k + 1) 176 m_Ma_takeText 73 [.ref 89, .ref 17, .null] [] (hp I J (pm_RT pa pb ga)) Q := by
  refine x_l 74 rfl rfl rfl ?_
  exact z_cv (As := []) (rest := []) (b := 17) rfl at_Ta_isRight rfl rfl (Nat.le_of_ble_eq_true rfl) (Nat.le_of_ble_eq_true rfl) ⟨rfl, rfl, rfl⟩ (by decide) rfl h

theorem bk_Ma_takeText_77 {k : Nat} {pa pb : Nat} {ga : Nat → Nat} {I : pm_II} {J : pm_JJ} {Q : Option Value → pm_H → Prop} {s0 : Int32} (h : ((¬ s0 = 0 → Px k 176 m_Ma_newcomers 0 [.ref 89, .null, .null] [] (hp I J (pm_RT pa pb ga)) (fun r h' => h'.1 = 176 ∧ Px (k + 1) 176 m_Ma_takeText 90 [.ref 89, .ref 17, .null] (r.toList ++ [.int (I 89 6)]) h' Q)) ∧ (¬ (¬ s0 = 0) → Q (some (.int (-1))) (hp I J (pm_RT pa pb ga))))) : Px (k + 1) 176 m_Ma_takeText 77 [.ref 89, .ref 17, .null] [.int s0] (hp I J (pm_RT pa pb ga)) Q := by
  refine x_b 80 rfl rfl rfl (fun c => ?_) (fun c => ?_)
  · have h := h.1 c
    refine x_l 83 rfl rfl rfl ?_
    refine z_gf 86 (.int (I 89 6)) rfl ⟨rfl, rfl, rfl⟩ rfl rfl ?_
    refine x_l 87 rfl rfl rfl ?_
    exact z_cv (As := []) (rest := [.int (I 89 6)]) (b := 89) rfl at_Ma_newcomers rfl rfl (Nat.le_of_ble_eq_true rfl) (Nat.le_of_ble_eq_true rfl) ⟨rfl, rfl, rfl⟩ (by decide) rfl h
  · have h := h.2 c
    refine z_k 81 (-1) rfl (by decide) rfl ?_
    exact x_ri rfl (Or.inl rfl) h

theorem bk_Ma_takeText_90 {k : Nat} {pa pb : Nat} {ga : Nat → Nat} {I : pm_II} {J : pm_JJ} {Q : Option Value → pm_H → Prop} {s0 : Int32} {s1 : Int32} (h : (((s0 + s1) ≤ 120 → Px (k + 1) 176 m_Ma_takeText 101 [.ref 89, .ref 17, .int 0] [] (hp I J (pm_RT pa pb ga)) Q) ∧ (¬ ((s0 + s1) ≤ 120) → Q (some (.int (-4))) (hp I J (pm_RT pa pb ga))))) : Px (k + 1) 176 m_Ma_takeText 90 [.ref 89, .ref 17, .null] [.int s1, .int s0] (hp I J (pm_RT pa pb ga)) Q := by
  refine x_s 91 rfl rfl rfl ?_
  refine z_k 93 120 rfl (by decide) rfl ?_
  refine x_b 96 rfl rfl rfl (fun c => ?_) (fun c => ?_)
  · have h := h.1 c
    refine z_k 100 0 rfl (by decide) rfl ?_
    refine x_t 101 rfl rfl rfl ?_
    exact h
  · have h := h.2 c
    refine z_k 98 (-4) rfl (by decide) rfl ?_
    exact x_ri rfl (Or.inl rfl) h

theorem bk_Ma_takeText_101 {k : Nat} {pa pb : Nat} {ga : Nat → Nat} {I : pm_II} {J : pm_JJ} {Q : Option Value → pm_H → Prop} {x2 : Int32} (h : (((I 89 5) ≤ x2 → Q (some (.int (I 89 6))) (hp I J (pm_RT pa pb ga))) ∧ (¬ ((I 89 5) ≤ x2) → vp_in x2 40 ∧ vp_in x2 40 ∧ Px k 176 m_Ma_insert 0 [.ref 89, .int (I 93 ((x2 : Int32).toNatClampNeg)), .long (J 94 ((x2 : Int32).toNatClampNeg)), .null, .null, .null] [] (hp I J (pm_RT pa pb ga)) (fun r h' => h'.1 = 176 ∧ Px (k + 1) 176 m_Ma_takeText 125 [.ref 89, .ref 17, .int x2] (r.toList ++ []) h' Q)))) : Px (k + 1) 176 m_Ma_takeText 101 [.ref 89, .ref 17, .int x2] [] (hp I J (pm_RT pa pb ga)) Q := by
  refine x_l 102 rfl rfl rfl ?_
  refine x_l 103 rfl rfl rfl ?_
  refine z_gf 106 (.int (I 89 5)) rfl ⟨rfl, rfl, rfl⟩ rfl rfl ?_
  refine x_b 109 rfl rfl rfl (fun c => ?_) (fun c => ?_)
  · have h := h.1 c
    refine x_l 132 rfl rfl rfl ?_
    refine z_gf 135 (.int (I 89 6)) rfl ⟨rfl, rfl, rfl⟩ rfl rfl ?_
    exact x_ri rfl (Or.inl rfl) h
  · have h := h.2 c
    refine x_l 110 rfl rfl rfl ?_
    refine x_l 111 rfl rfl rfl ?_
    refine z_gf 114 (.ref 93) rfl ⟨rfl, rfl, rfl⟩ rfl rfl ?_
    refine x_l 115 rfl rfl rfl ?_
    have h1 := h.1
    have h := h.2
    refine z_il 116 40 rfl ⟨rfl, rfl, rfl⟩ rfl h1 rfl ?_
    refine x_l 117 rfl rfl rfl ?_
    refine z_gf 120 (.ref 94) rfl ⟨rfl, rfl, rfl⟩ rfl rfl ?_
    refine x_l 121 rfl rfl rfl ?_
    have h1 := h.1
    have h := h.2
    refine z_jl 122 40 rfl ⟨rfl, rfl, rfl⟩ rfl h1 rfl ?_
    exact z_cv (As := [.int (I 93 ((x2 : Int32).toNatClampNeg)), .long (J 94 ((x2 : Int32).toNatClampNeg))]) (rest := []) (b := 89) rfl at_Ma_insert rfl rfl (Nat.le_of_ble_eq_true rfl) (Nat.le_of_ble_eq_true rfl) ⟨rfl, rfl, rfl⟩ (by decide) rfl h

theorem bk_Ma_takeText_125 {k : Nat} {pa pb : Nat} {ga : Nat → Nat} {I : pm_II} {J : pm_JJ} {Q : Option Value → pm_H → Prop} {x2 : Int32} (h : Px (k + 1) 176 m_Ma_takeText 101 [.ref 89, .ref 17, .int (x2 + Int32.ofInt 1)] [] (hp I J (pm_RT pa pb ga)) Q) : Px (k + 1) 176 m_Ma_takeText 125 [.ref 89, .ref 17, .int x2] [] (hp I J (pm_RT pa pb ga)) Q := by
  refine x_t 128 rfl rfl rfl ?_
  refine x_g rfl ?_
  exact h

theorem bk_Ma_readCode_0 {k : Nat} {pa pb : Nat} {ga : Nat → Nat} {I : pm_II} {J : pm_JJ} {Q : Option Value → pm_H → Prop} (h : Px (k + 1) 176 m_Ma_readCode 4 [.ref 17, .int 0, .int 0, .null] [] (hp I J (pm_RT pa pb ga)) Q) : Px (k + 1) 176 m_Ma_readCode 0 [.ref 17, .null, .null, .null] [] (hp I J (pm_RT pa pb ga)) Q := by
  refine z_k 1 0 rfl (by decide) rfl ?_
  refine x_t 2 rfl rfl rfl ?_
  refine z_k 3 0 rfl (by decide) rfl ?_
  refine x_t 4 rfl rfl rfl ?_
  exact h

theorem bk_Ma_readCode_4 {k : Nat} {pa pb : Nat} {ga : Nat → Nat} {I : pm_II} {J : pm_JJ} {Q : Option Value → pm_H → Prop} {x1 : Int32} {x2 : Int32} (h : ((5 ≤ x2 → Q (some (.int x1)) (hp I J (pm_RT pa pb ga))) ∧ (¬ (5 ≤ x2) → Px k 176 m_Ta_next 0 [.ref 17] [] (hp I J (pm_RT pa pb ga)) (fun r h' => h'.1 = 176 ∧ Px (k + 1) 176 m_Ma_readCode 13 [.ref 17, .int x1, .int x2, .null] (r.toList ++ []) h' Q)))) : Px (k + 1) 176 m_Ma_readCode 4 [.ref 17, .int x1, .int x2, .null] [] (hp I J (pm_RT pa pb ga)) Q := by
  refine x_l 5 rfl rfl rfl ?_
  refine z_k 6 5 rfl (by decide) rfl ?_
  refine x_b 9 rfl rfl rfl (fun c => ?_) (fun c => ?_)
  · have h := h.1 c
    refine x_l 57 rfl rfl rfl ?_
    exact x_ri rfl (Or.inl rfl) h
  · have h := h.2 c
    refine x_l 10 rfl rfl rfl ?_
    exact z_cv (As := []) (rest := []) (b := 17) rfl at_Ta_next rfl rfl (Nat.le_of_ble_eq_true rfl) (Nat.le_of_ble_eq_true rfl) ⟨rfl, rfl, rfl⟩ (by decide) rfl h

theorem bk_Ma_readCode_13 {k : Nat} {pa pb : Nat} {ga : Nat → Nat} {I : pm_II} {J : pm_JJ} {Q : Option Value → pm_H → Prop} {x1 : Int32} {x2 : Int32} {s0 : Int32} (h : ((s0 < 48 → Px (k + 1) 176 m_Ma_readCode 26 [.ref 17, .int x1, .int x2, .int s0] [] (hp I J (pm_RT pa pb ga)) Q) ∧ (¬ (s0 < 48) → ((s0 ≤ 57 → Px (k + 1) 176 m_Ma_readCode 34 [.ref 17, .int x1, .int x2, .int s0] [] (hp I J (pm_RT pa pb ga)) Q) ∧ (¬ (s0 ≤ 57) → Px (k + 1) 176 m_Ma_readCode 26 [.ref 17, .int x1, .int x2, .int s0] [] (hp I J (pm_RT pa pb ga)) Q))))) : Px (k + 1) 176 m_Ma_readCode 13 [.ref 17, .int x1, .int x2, .null] [.int s0] (hp I J (pm_RT pa pb ga)) Q := by
  refine x_t 14 rfl rfl rfl ?_
  refine x_l 15 rfl rfl rfl ?_
  refine z_k 17 48 rfl (by decide) rfl ?_
  refine x_b 20 rfl rfl rfl (fun c => ?_) (fun c => ?_)
  · have h := h.1 c
    exact h
  · have h := h.2 c
    refine x_l 21 rfl rfl rfl ?_
    refine z_k 23 57 rfl (by decide) rfl ?_
    refine x_b 26 rfl rfl rfl (fun c => ?_) (fun c => ?_)
    · have h := h.1 c
      exact h
    · have h := h.2 c
      exact h

theorem bk_Ma_readCode_26 {k : Nat} {pa pb : Nat} {ga : Nat → Nat} {I : pm_II} {J : pm_JJ} {Q : Option Value → pm_H → Prop} {x1 : Int32} {x2 : Int32} {x3 : Int32} (h : Px k 176 m_Ta_place 0 [.ref 17] [] (hp I J (pm_RT pa pb ga)) (fun r h' => h'.1 = 176 ∧ Px (k + 1) 176 m_Ma_readCode 31 [.ref 17, .int x1, .int x2, .int x3] (r.toList ++ [.ref 17]) h' Q)) : Px (k + 1) 176 m_Ma_readCode 26 [.ref 17, .int x1, .int x2, .int x3] [] (hp I J (pm_RT pa pb ga)) Q := by
  refine x_l 27 rfl rfl rfl ?_
  refine x_l 28 rfl rfl rfl ?_
  exact z_cv (As := []) (rest := [.ref 17]) (b := 17) rfl at_Ta_place rfl rfl (Nat.le_of_ble_eq_true rfl) (Nat.le_of_ble_eq_true rfl) ⟨rfl, rfl, rfl⟩ (by decide) rfl h

theorem bk_Ma_readCode_31 {k : Nat} {pa pb : Nat} {ga : Nat → Nat} {I : pm_II} {J : pm_JJ} {Q : Option Value → pm_H → Prop} {x1 : Int32} {x2 : Int32} {x3 : Int32} {s1 : Int32} (h : Px k 176 m_Ta_blame 0 [.ref 17, .int s1] [] (hp I J (pm_RT pa pb ga)) (fun r h' => h'.1 = 176 ∧ Px (k + 1) 176 m_Ma_readCode 34 [.ref 17, .int x1, .int x2, .int x3] (r.toList ++ []) h' Q)) : Px (k + 1) 176 m_Ma_readCode 31 [.ref 17, .int x1, .int x2, .int x3] [.int s1, .ref 17] (hp I J (pm_RT pa pb ga)) Q := by
  exact z_cv (As := [.int s1]) (rest := []) (b := 17) rfl at_Ta_blame rfl rfl (Nat.le_of_ble_eq_true rfl) (Nat.le_of_ble_eq_true rfl) ⟨rfl, rfl, rfl⟩ (by decide) rfl h

theorem bk_Ma_readCode_34 {k : Nat} {pa pb : Nat} {ga : Nat → Nat} {I : pm_II} {J : pm_JJ} {Q : Option Value → pm_H → Prop} {x1 : Int32} {x2 : Int32} {x3 : Int32} (h : Px k 176 m_Ta_takes 0 [.ref 17, .int x3] [] (hp I J (pm_RT pa pb ga)) (fun r h' => h'.1 = 176 ∧ Px (k + 1) 176 m_Ma_readCode 39 [.ref 17, .int x1, .int x2, .int x3] (r.toList ++ []) h' Q)) : Px (k + 1) 176 m_Ma_readCode 34 [.ref 17, .int x1, .int x2, .int x3] [] (hp I J (pm_RT pa pb ga)) Q := by
  refine x_l 35 rfl rfl rfl ?_
  refine x_l 36 rfl rfl rfl ?_
  exact z_cv (As := [.int x3]) (rest := []) (b := 17) rfl at_Ta_takes rfl rfl (Nat.le_of_ble_eq_true rfl) (Nat.le_of_ble_eq_true rfl) ⟨rfl, rfl, rfl⟩ (by decide) rfl h

theorem bk_Ma_readCode_39 {k : Nat} {pa pb : Nat} {ga : Nat → Nat} {I : pm_II} {J : pm_JJ} {Q : Option Value → pm_H → Prop} {x1 : Int32} {x2 : Int32} {x3 : Int32} {s0 : Int32} (h : Px (k + 1) 176 m_Ma_readCode 4 [.ref 17, .int (((x1 * (10 : Int32)) + x3) - (48 : Int32)), .int (x2 + Int32.ofInt 1), .int x3] [] (hp I J (pm_RT pa pb ga)) Q) : Px (k + 1) 176 m_Ma_readCode 39 [.ref 17, .int x1, .int x2, .int x3] [.int s0] (hp I J (pm_RT pa pb ga)) Q := by
  refine x_s 40 rfl rfl rfl ?_
  refine x_l 41 rfl rfl rfl ?_
  refine z_k 43 10 rfl (by decide) rfl ?_
  refine x_s 44 rfl rfl rfl ?_
  refine x_l 45 rfl rfl rfl ?_
  refine x_s 46 rfl rfl rfl ?_
  refine z_k 48 48 rfl (by decide) rfl ?_
  refine x_s 49 rfl rfl rfl ?_
  refine x_t 50 rfl rfl rfl ?_
  refine x_t 53 rfl rfl rfl ?_
  refine x_g rfl ?_
  exact h

theorem bk_Ma_readName_0 {k : Nat} {pa pb : Nat} {ga : Nat → Nat} {I : pm_II} {J : pm_JJ} {Q : Option Value → pm_H → Prop} (h : Px k 176 m_Ta_readLetters 0 [.ref 17, .int 8, .int 1, .null] [] (hp I J (pm_RT pa pb ga)) (fun r h' => h'.1 = 176 ∧ Px (k + 1) 176 m_Ma_readName 7 [.ref 17, .null, .null, .null, .null, .null] (r.toList ++ []) h' Q)) : Px (k + 1) 176 m_Ma_readName 0 [.ref 17, .null, .null, .null, .null, .null] [] (hp I J (pm_RT pa pb ga)) Q := by
  refine x_l 1 rfl rfl rfl ?_
  refine z_k 3 8 rfl (by decide) rfl ?_
  refine z_k 4 1 rfl (by decide) rfl ?_
  exact z_cv (As := [.int 8, .int 1]) (rest := []) (b := 17) rfl at_Ta_readLetters rfl rfl (Nat.le_of_ble_eq_true rfl) (Nat.le_of_ble_eq_true rfl) ⟨rfl, rfl, rfl⟩ (by decide) rfl h

theorem bk_Ma_readName_7 {k : Nat} {pa pb : Nat} {ga : Nat → Nat} {I : pm_II} {J : pm_JJ} {Q : Option Value → pm_H → Prop} {s0 : Int32} (h : Px k 176 m_Ta_place 0 [.ref 17] [] (hp I J (pm_RT pa pb ga)) (fun r h' => h'.1 = 176 ∧ Px (k + 1) 176 m_Ma_readName 12 [.ref 17, .int s0, .null, .null, .null, .null] (r.toList ++ []) h' Q)) : Px (k + 1) 176 m_Ma_readName 7 [.ref 17, .null, .null, .null, .null, .null] [.int s0] (hp I J (pm_RT pa pb ga)) Q := by
  refine x_t 8 rfl rfl rfl ?_
  refine x_l 9 rfl rfl rfl ?_
  exact z_cv (As := []) (rest := []) (b := 17) rfl at_Ta_place rfl rfl (Nat.le_of_ble_eq_true rfl) (Nat.le_of_ble_eq_true rfl) ⟨rfl, rfl, rfl⟩ (by decide) rfl h

theorem bk_Ma_readName_12 {k : Nat} {pa pb : Nat} {ga : Nat → Nat} {I : pm_II} {J : pm_JJ} {Q : Option Value → pm_H → Prop} {x1 : Int32} {s0 : Int32} (h : Px (k + 1) 176 m_Ma_readName 20 [.ref 17, .int x1, .int (s0 - x1), .long (Int64.ofNat 0), .null, .int 0] [] (hp I J (pm_RT pa pb ga)) Q) : Px (k + 1) 176 m_Ma_readName 12 [.ref 17, .int x1, .null, .null, .null, .null] [.int s0] (hp I J (pm_RT pa pb ga)) Q := by
  refine x_l 13 rfl rfl rfl ?_
  refine x_s 14 rfl rfl rfl ?_
  refine x_t 15 rfl rfl rfl ?_
  refine x_s 16 rfl rfl rfl ?_
  refine x_t 17 rfl rfl rfl ?_
  refine z_k 18 0 rfl (by decide) rfl ?_
  refine x_t 20 rfl rfl rfl ?_
  exact h

theorem bk_Ma_readName_20 {k : Nat} {pa pb : Nat} {ga : Nat → Nat} {I : pm_II} {J : pm_JJ} {Q : Option Value → pm_H → Prop} {x1 : Int32} {x2 : Int32} {y3 : Int64} {x5 : Int32} (h : ((8 ≤ x5 → Q (some (.long y3)) (hp I J (pm_RT pa pb ga))) ∧ (¬ (8 ≤ x5) → ((x1 ≤ x5 → Px (k + 1) 176 m_Ma_readName 20 [.ref 17, .int x1, .int x2, .long ((y3 <<< ((8 : Int32).toInt64 &&& 63)) ||| (0 : Int32).toInt64), .null, .int (x5 + Int32.ofInt 1)] [] (hp I J (pm_RT pa pb ga)) Q) ∧ (¬ (x1 ≤ x5) → Px k 176 m_Ta_byteAt 0 [.ref 17, .int (x2 + x5)] [] (hp I J (pm_RT pa pb ga)) (fun r h' => h'.1 = 176 ∧ Px (k + 1) 176 m_Ma_readName 45 [.ref 17, .int x1, .int x2, .long y3, .null, .int x5] (r.toList ++ [.long (y3 <<< ((8 : Int32).toInt64 &&& 63))]) h' Q)))))) : Px (k + 1) 176 m_Ma_readName 20 [.ref 17, .int x1, .int x2, .long y3, .null, .int x5] [] (hp I J (pm_RT pa pb ga)) Q := by
  refine x_l 22 rfl rfl rfl ?_
  refine z_k 24 8 rfl (by decide) rfl ?_
  refine x_b 27 rfl rfl rfl (fun c => ?_) (fun c => ?_)
  · have h := h.1 c
    refine x_l 59 rfl rfl rfl ?_
    exact x_rj rfl rfl h
  · have h := h.2 c
    refine x_l 28 rfl rfl rfl ?_
    refine z_k 30 8 rfl (by decide) rfl ?_
    refine x_s 31 rfl rfl rfl ?_
    refine x_l 33 rfl rfl rfl ?_
    refine x_l 34 rfl rfl rfl ?_
    refine x_b 37 rfl rfl rfl (fun c => ?_) (fun c => ?_)
    · have h := h.1 c
      refine z_k 49 0 rfl (by decide) rfl ?_
      refine x_s 50 rfl rfl rfl ?_
      refine x_s 51 rfl rfl rfl ?_
      refine x_t 52 rfl rfl rfl ?_
      refine x_t 55 rfl rfl rfl ?_
      refine x_g rfl ?_
      exact h
    · have h := h.2 c
      refine x_l 38 rfl rfl rfl ?_
      refine x_l 39 rfl rfl rfl ?_
      refine x_l 41 rfl rfl rfl ?_
      refine x_s 42 rfl rfl rfl ?_
      exact z_cv (As := [.int (x2 + x5)]) (rest := [.long (y3 <<< ((8 : Int32).toInt64 &&& 63))]) (b := 17) rfl at_Ta_byteAt rfl rfl (Nat.le_of_ble_eq_true rfl) (Nat.le_of_ble_eq_true rfl) ⟨rfl, rfl, rfl⟩ (by decide) rfl h

theorem bk_Ma_readName_45 {k : Nat} {pa pb : Nat} {ga : Nat → Nat} {I : pm_II} {J : pm_JJ} {Q : Option Value → pm_H → Prop} {x1 : Int32} {x2 : Int32} {y3 : Int64} {x5 : Int32} {w0 : Int64} {s1 : Int32} (h : Px (k + 1) 176 m_Ma_readName 20 [.ref 17, .int x1, .int x2, .long (w0 ||| (s1 : Int32).toInt64), .null, .int (x5 + Int32.ofInt 1)] [] (hp I J (pm_RT pa pb ga)) Q) : Px (k + 1) 176 m_Ma_readName 45 [.ref 17, .int x1, .int x2, .long y3, .null, .int x5] [.int s1, .long w0] (hp I J (pm_RT pa pb ga)) Q := by
  refine x_g rfl ?_
  refine x_s 50 rfl rfl rfl ?_
  refine x_s 51 rfl rfl rfl ?_
  refine x_t 52 rfl rfl rfl ?_
  refine x_t 55 rfl rfl rfl ?_
  refine x_g rfl ?_
  exact h

theorem bk_Ma_newcomers_0 {k : Nat} {pa pb : Nat} {ga : Nat → Nat} {I : pm_II} {J : pm_JJ} {Q : Option Value → pm_H → Prop} (h : Px (k + 1) 176 m_Ma_newcomers 4 [.ref 89, .int 0, .int 0] [] (hp I J (pm_RT pa pb ga)) Q) : Px (k + 1) 176 m_Ma_newcomers 0 [.ref 89, .null, .null] [] (hp I J (pm_RT pa pb ga)) Q := by
  refine z_k 1 0 rfl (by decide) rfl ?_
  refine x_t 2 rfl rfl rfl ?_
  refine z_k 3 0 rfl (by decide) rfl ?_
  refine x_t 4 rfl rfl rfl ?_
  exact h

theorem bk_Ma_newcomers_4 {k : Nat} {pa pb : Nat} {ga : Nat → Nat} {I : pm_II} {J : pm_JJ} {Q : Option Value → pm_H → Prop} {x1 : Int32} {x2 : Int32} (h : (((I 89 5) ≤ x2 → Px (k + 1) 176 m_Ma_newcomers 54 [.ref 89, .int x1, .int x2] [] (hp I J (pm_RT pa pb ga)) Q) ∧ (¬ ((I 89 5) ≤ x2) → ((40 ≤ x2 → Px (k + 1) 176 m_Ma_newcomers 54 [.ref 89, .int x1, .int x2] [] (hp I J (pm_RT pa pb ga)) Q) ∧ (¬ (40 ≤ x2) → vp_in x2 40 ∧ vp_in x2 40 ∧ Px k 176 m_Ma_isThere 0 [.ref 89, .int (I 93 ((x2 : Int32).toNatClampNeg)), .long (J 94 ((x2 : Int32).toNatClampNeg)), .null, .null] [] (hp I J (pm_RT pa pb ga)) (fun r h' => h'.1 = 176 ∧ Px (k + 1) 176 m_Ma_newcomers 34 [.ref 89, .int x1, .int x2] (r.toList ++ []) h' Q)))))) : Px (k + 1) 176 m_Ma_newcomers 4 [.ref 89, .int x1, .int x2] [] (hp I J (pm_RT pa pb ga)) Q := by
  refine x_l 5 rfl rfl rfl ?_
  refine x_l 6 rfl rfl rfl ?_
  refine z_gf 9 (.int (I 89 5)) rfl ⟨rfl, rfl, rfl⟩ rfl rfl ?_
  refine x_b 12 rfl rfl rfl (fun c => ?_) (fun c => ?_)
  · have h := h.1 c
    exact h
  · have h := h.2 c
    refine x_l 13 rfl rfl rfl ?_
    refine z_k 15 40 rfl (by decide) rfl ?_
    refine x_b 18 rfl rfl rfl (fun c => ?_) (fun c => ?_)
    · have h := h.1 c
      exact h
    · have h := h.2 c
      refine x_l 19 rfl rfl rfl ?_
      refine x_l 20 rfl rfl rfl ?_
      refine z_gf 23 (.ref 93) rfl ⟨rfl, rfl, rfl⟩ rfl rfl ?_
      refine x_l 24 rfl rfl rfl ?_
      have h1 := h.1
      have h := h.2
      refine z_il 25 40 rfl ⟨rfl, rfl, rfl⟩ rfl h1 rfl ?_
      refine x_l 26 rfl rfl rfl ?_
      refine z_gf 29 (.ref 94) rfl ⟨rfl, rfl, rfl⟩ rfl rfl ?_
      refine x_l 30 rfl rfl rfl ?_
      have h1 := h.1
      have h := h.2
      refine z_jl 31 40 rfl ⟨rfl, rfl, rfl⟩ rfl h1 rfl ?_
      exact z_cv (As := [.int (I 93 ((x2 : Int32).toNatClampNeg)), .long (J 94 ((x2 : Int32).toNatClampNeg))]) (rest := []) (b := 89) rfl at_Ma_isThere rfl rfl (Nat.le_of_ble_eq_true rfl) (Nat.le_of_ble_eq_true rfl) ⟨rfl, rfl, rfl⟩ (by decide) rfl h

theorem bk_Ma_newcomers_34 {k : Nat} {pa pb : Nat} {ga : Nat → Nat} {I : pm_II} {J : pm_JJ} {Q : Option Value → pm_H → Prop} {x1 : Int32} {x2 : Int32} {s0 : Int32} (h : ((¬ s0 = 0 → Px (k + 1) 176 m_Ma_newcomers 4 [.ref 89, .int x1, .int (x2 + Int32.ofInt 1)] [] (hp I J (pm_RT pa pb ga)) Q) ∧ (¬ (¬ s0 = 0) → Px k 176 m_Ma_standsAhead 0 [.ref 89, .int x2, .null] [] (hp I J (pm_RT pa pb ga)) (fun r h' => h'.1 = 176 ∧ Px (k + 1) 176 m_Ma_newcomers 42 [.ref 89, .int x1, .int x2] (r.toList ++ []) h' Q)))) : Px (k + 1) 176 m_Ma_newcomers 34 [.ref 89, .int x1, .int x2] [.int s0] (hp I J (pm_RT pa pb ga)) Q := by
  refine x_b 37 rfl rfl rfl (fun c => ?_) (fun c => ?_)
  · have h := h.1 c
    refine x_t 51 rfl rfl rfl ?_
    refine x_g rfl ?_
    exact h
  · have h := h.2 c
    refine x_l 38 rfl rfl rfl ?_
    refine x_l 39 rfl rfl rfl ?_
    exact z_cv (As := [.int x2]) (rest := []) (b := 89) rfl at_Ma_standsAhead rfl rfl (Nat.le_of_ble_eq_true rfl) (Nat.le_of_ble_eq_true rfl) ⟨rfl, rfl, rfl⟩ (by decide) rfl h

theorem bk_Ma_newcomers_42 {k : Nat} {pa pb : Nat} {ga : Nat → Nat} {I : pm_II} {J : pm_JJ} {Q : Option Value → pm_H → Prop} {x1 : Int32} {x2 : Int32} {s0 : Int32} (h : ((¬ s0 = 0 → Px (k + 1) 176 m_Ma_newcomers 4 [.ref 89, .int x1, .int (x2 + Int32.ofInt 1)] [] (hp I J (pm_RT pa pb ga)) Q) ∧ (¬ (¬ s0 = 0) → Px (k + 1) 176 m_Ma_newcomers 4 [.ref 89, .int (x1 + Int32.ofInt 1), .int (x2 + Int32.ofInt 1)] [] (hp I J (pm_RT pa pb ga)) Q))) : Px (k + 1) 176 m_Ma_newcomers 42 [.ref 89, .int x1, .int x2] [.int s0] (hp I J (pm_RT pa pb ga)) Q := by
  refine x_b 45 rfl rfl rfl (fun c => ?_) (fun c => ?_)
  · have h := h.1 c
    refine x_t 51 rfl rfl rfl ?_
    refine x_g rfl ?_
    exact h
  · have h := h.2 c
    refine x_t 48 rfl rfl rfl ?_
    refine x_t 51 rfl rfl rfl ?_
    refine x_g rfl ?_
    exact h

theorem bk_Ma_newcomers_54 {k : Nat} {pa pb : Nat} {ga : Nat → Nat} {I : pm_II} {J : pm_JJ} {Q : Option Value → pm_H → Prop} {x1 : Int32} {x2 : Int32} (h : Q (some (.int x1)) (hp I J (pm_RT pa pb ga))) : Px (k + 1) 176 m_Ma_newcomers 54 [.ref 89, .int x1, .int x2] [] (hp I J (pm_RT pa pb ga)) Q := by
  refine x_l 55 rfl rfl rfl ?_
  exact x_ri rfl (Or.inl rfl) h

theorem bk_Ma_isThere_0 {k : Nat} {pa pb : Nat} {ga : Nat → Nat} {I : pm_II} {J : pm_JJ} {Q : Option Value → pm_H → Prop} {x1 : Int32} {y2 : Int64} (h : Px k 176 m_Ma_placeFor 0 [.ref 89, .int x1, .long y2, .null, .null] [] (hp I J (pm_RT pa pb ga)) (fun r h' => h'.1 = 176 ∧ Px (k + 1) 176 m_Ma_isThere 6 [.ref 89, .int x1, .long y2, .null, .null] (r.toList ++ []) h' Q)) : Px (k + 1) 176 m_Ma_isThere 0 [.ref 89, .int x1, .long y2, .null, .null] [] (hp I J (pm_RT pa pb ga)) Q := by
  refine x_l 1 rfl rfl rfl ?_
  refine x_l 2 rfl rfl rfl ?_
  refine x_l 3 rfl rfl rfl ?_
  exact z_cv (As := [.int x1, .long y2]) (rest := []) (b := 89) rfl at_Ma_placeFor rfl rfl (Nat.le_of_ble_eq_true rfl) (Nat.le_of_ble_eq_true rfl) ⟨rfl, rfl, rfl⟩ (by decide) rfl h

theorem bk_Ma_isThere_6 {k : Nat} {pa pb : Nat} {ga : Nat → Nat} {I : pm_II} {J : pm_JJ} {Q : Option Value → pm_H → Prop} {x1 : Int32} {y2 : Int64} {s0 : Int32} (h : Px k 176 m_Ma_has 0 [.ref 89, .int s0] [] (hp I J (pm_RT pa pb ga)) (fun r h' => h'.1 = 176 ∧ Px (k + 1) 176 m_Ma_isThere 14 [.ref 89, .int x1, .long y2, .null, .int s0] (r.toList ++ []) h' Q)) : Px (k + 1) 176 m_Ma_isThere 6 [.ref 89, .int x1, .long y2, .null, .null] [.int s0] (hp I J (pm_RT pa pb ga)) Q := by
  refine x_t 8 rfl rfl rfl ?_
  refine x_l 9 rfl rfl rfl ?_
  refine x_l 11 rfl rfl rfl ?_
  exact z_cv (As := [.int s0]) (rest := []) (b := 89) rfl at_Ma_has rfl rfl (Nat.le_of_ble_eq_true rfl) (Nat.le_of_ble_eq_true rfl) ⟨rfl, rfl, rfl⟩ (by decide) rfl h

theorem bk_Ma_isThere_14 {k : Nat} {pa pb : Nat} {ga : Nat → Nat} {I : pm_II} {J : pm_JJ} {Q : Option Value → pm_H → Prop} {x1 : Int32} {y2 : Int64} {x4 : Int32} {s0 : Int32} (h : ((s0 = 0 → Q (some (.int 0)) (hp I J (pm_RT pa pb ga))) ∧ (¬ (s0 = 0) → vp_in x4 120 ∧ ((¬ (I 90 ((x4 : Int32).toNatClampNeg)) = x1 → Q (some (.int 0)) (hp I J (pm_RT pa pb ga))) ∧ (¬ (¬ (I 90 ((x4 : Int32).toNatClampNeg)) = x1) → vp_in x4 120 ∧ ((¬ (lg_cmp (J 91 ((x4 : Int32).toNatClampNeg)) y2) = 0 → Q (some (.int 0)) (hp I J (pm_RT pa pb ga))) ∧ (¬ (¬ (lg_cmp (J 91 ((x4 : Int32).toNatClampNeg)) y2) = 0) → Q (some (.int 1)) (hp I J (pm_RT pa pb ga))))))))) : Px (k + 1) 176 m_Ma_isThere 14 [.ref 89, .int x1, .long y2, .null, .int x4] [.int s0] (hp I J (pm_RT pa pb ga)) Q := by
  refine x_b 17 rfl rfl rfl (fun c => ?_) (fun c => ?_)
  · have h := h.1 c
    refine z_k 45 0 rfl (by decide) rfl ?_
    exact x_ri rfl (Or.inr ⟨rfl, Or.inl rfl⟩) h
  · have h := h.2 c
    refine x_l 18 rfl rfl rfl ?_
    refine z_gf 21 (.ref 90) rfl ⟨rfl, rfl, rfl⟩ rfl rfl ?_
    refine x_l 23 rfl rfl rfl ?_
    have h1 := h.1
    have h := h.2
    refine z_il 24 120 rfl ⟨rfl, rfl, rfl⟩ rfl h1 rfl ?_
    refine x_l 25 rfl rfl rfl ?_
    refine x_b 28 rfl rfl rfl (fun c => ?_) (fun c => ?_)
    · have h := h.1 c
      refine z_k 45 0 rfl (by decide) rfl ?_
      exact x_ri rfl (Or.inr ⟨rfl, Or.inl rfl⟩) h
    · have h := h.2 c
      refine x_l 29 rfl rfl rfl ?_
      refine z_gf 32 (.ref 91) rfl ⟨rfl, rfl, rfl⟩ rfl rfl ?_
      refine x_l 34 rfl rfl rfl ?_
      have h1 := h.1
      have h := h.2
      refine z_jl 35 120 rfl ⟨rfl, rfl, rfl⟩ rfl h1 rfl ?_
      refine x_l 36 rfl rfl rfl ?_
      refine x_lc 37 rfl rfl ?_
      refine x_b 40 rfl rfl rfl (fun c => ?_) (fun c => ?_)
      · have h := h.1 c
        refine z_k 45 0 rfl (by decide) rfl ?_
        exact x_ri rfl (Or.inr ⟨rfl, Or.inl rfl⟩) h
      · have h := h.2 c
        refine z_k 41 1 rfl (by decide) rfl ?_
        refine x_g rfl ?_
        exact x_ri rfl (Or.inr ⟨rfl, Or.inr rfl⟩) h

theorem bk_Ma_placeFor_0 {k : Nat} {pa pb : Nat} {ga : Nat → Nat} {I : pm_II} {J : pm_JJ} {Q : Option Value → pm_H → Prop} {x1 : Int32} {y2 : Int64} (h : Px (k + 1) 176 m_Ma_placeFor 3 [.ref 89, .int x1, .long y2, .null, .int 0] [] (hp I J (pm_RT pa pb ga)) Q) : Px (k + 1) 176 m_Ma_placeFor 0 [.ref 89, .int x1, .long y2, .null, .null] [] (hp I J (pm_RT pa pb ga)) Q := by
  refine z_k 1 0 rfl (by decide) rfl ?_
  refine x_t 3 rfl rfl rfl ?_
  exact h

theorem bk_Ma_placeFor_3 {k : Nat} {pa pb : Nat} {ga : Nat → Nat} {I : pm_II} {J : pm_JJ} {Q : Option Value → pm_H → Prop} {x1 : Int32} {y2 : Int64} {x4 : Int32} (h : (((I 89 6) ≤ x4 → Px (k + 1) 176 m_Ma_placeFor 36 [.ref 89, .int x1, .long y2, .null, .int x4] [] (hp I J (pm_RT pa pb ga)) Q) ∧ (¬ ((I 89 6) ≤ x4) → ((120 ≤ x4 → Px (k + 1) 176 m_Ma_placeFor 36 [.ref 89, .int x1, .long y2, .null, .int x4] [] (hp I J (pm_RT pa pb ga)) Q) ∧ (¬ (120 ≤ x4) → Px k 176 m_Ma_isAhead 0 [.ref 89, .int x4, .int x1, .long y2, .null] [] (hp I J (pm_RT pa pb ga)) (fun r h' => h'.1 = 176 ∧ Px (k + 1) 176 m_Ma_placeFor 27 [.ref 89, .int x1, .long y2, .null, .int x4] (r.toList ++ []) h' Q)))))) : Px (k + 1) 176 m_Ma_placeFor 3 [.ref 89, .int x1, .long y2, .null, .int x4] [] (hp I J (pm_RT pa pb ga)) Q := by
  refine x_l 5 rfl rfl rfl ?_
  refine x_l 6 rfl rfl rfl ?_
  refine z_gf 9 (.int (I 89 6)) rfl ⟨rfl, rfl, rfl⟩ rfl rfl ?_
  refine x_b 12 rfl rfl rfl (fun c => ?_) (fun c => ?_)
  · have h := h.1 c
    exact h
  · have h := h.2 c
    refine x_l 14 rfl rfl rfl ?_
    refine z_k 16 120 rfl (by decide) rfl ?_
    refine x_b 19 rfl rfl rfl (fun c => ?_) (fun c => ?_)
    · have h := h.1 c
      exact h
    · have h := h.2 c
      refine x_l 20 rfl rfl rfl ?_
      refine x_l 22 rfl rfl rfl ?_
      refine x_l 23 rfl rfl rfl ?_
      refine x_l 24 rfl rfl rfl ?_
      exact z_cv (As := [.int x4, .int x1, .long y2]) (rest := []) (b := 89) rfl at_Ma_isAhead rfl rfl (Nat.le_of_ble_eq_true rfl) (Nat.le_of_ble_eq_true rfl) ⟨rfl, rfl, rfl⟩ (by decide) rfl h

theorem bk_Ma_placeFor_27 {k : Nat} {pa pb : Nat} {ga : Nat → Nat} {I : pm_II} {J : pm_JJ} {Q : Option Value → pm_H → Prop} {x1 : Int32} {y2 : Int64} {x4 : Int32} {s0 : Int32} (h : ((s0 = 0 → Px (k + 1) 176 m_Ma_placeFor 36 [.ref 89, .int x1, .long y2, .null, .int x4] [] (hp I J (pm_RT pa pb ga)) Q) ∧ (¬ (s0 = 0) → Px (k + 1) 176 m_Ma_placeFor 3 [.ref 89, .int x1, .long y2, .null, .int (x4 + Int32.ofInt 1)] [] (hp I J (pm_RT pa pb ga)) Q))) : Px (k + 1) 176 m_Ma_placeFor 27 [.ref 89, .int x1, .long y2, .null, .int x4] [.int s0] (hp I J (pm_RT pa pb ga)) Q := by
  refine x_b 30 rfl rfl rfl (fun c => ?_) (fun c => ?_)
  · have h := h.1 c
    exact h
  · have h := h.2 c
    refine x_t 33 rfl rfl rfl ?_
    refine x_g rfl ?_
    exact h

theorem bk_Ma_placeFor_36 {k : Nat} {pa pb : Nat} {ga : Nat → Nat} {I : pm_II} {J : pm_JJ} {Q : Option Value → pm_H → Prop} {x1 : Int32} {y2 : Int64} {x4 : Int32} (h : Q (some (.int x4)) (hp I J (pm_RT pa pb ga))) : Px (k + 1) 176 m_Ma_placeFor 36 [.ref 89, .int x1, .long y2, .null, .int x4] [] (hp I J (pm_RT pa pb ga)) Q := by
  refine x_l 38 rfl rfl rfl ?_
  exact x_ri rfl (Or.inl rfl) h

theorem bk_Ma_isAhead_0 {k : Nat} {pa pb : Nat} {ga : Nat → Nat} {I : pm_II} {J : pm_JJ} {Q : Option Value → pm_H → Prop} {x1 : Int32} {x2 : Int32} {y3 : Int64} (h : vp_in x1 120 ∧ (((I 90 ((x1 : Int32).toNatClampNeg)) < x2 → Q (some (.int 1)) (hp I J (pm_RT pa pb ga))) ∧ (¬ ((I 90 ((x1 : Int32).toNatClampNeg)) < x2) → vp_in x1 120 ∧ ((¬ (I 90 ((x1 : Int32).toNatClampNeg)) = x2 → Q (some (.int 0)) (hp I J (pm_RT pa pb ga))) ∧ (¬ (¬ (I 90 ((x1 : Int32).toNatClampNeg)) = x2) → vp_in x1 120 ∧ ((0 ≤ (lg_cmp (J 91 ((x1 : Int32).toNatClampNeg)) y3) → Q (some (.int 0)) (hp I J (pm_RT pa pb ga))) ∧ (¬ (0 ≤ (lg_cmp (J 91 ((x1 : Int32).toNatClampNeg)) y3)) → Q (some (.int 1)) (hp I J (pm_RT pa pb ga))))))))) : Px k 176 m_Ma_isAhead 0 [.ref 89, .int x1, .int x2, .long y3, .null] [] (hp I J (pm_RT pa pb ga)) Q := by
  refine x_l 1 rfl rfl rfl ?_
  refine z_gf 4 (.ref 90) rfl ⟨rfl, rfl, rfl⟩ rfl rfl ?_
  refine x_l 5 rfl rfl rfl ?_
  have h1 := h.1
  have h := h.2
  refine z_il 6 120 rfl ⟨rfl, rfl, rfl⟩ rfl h1 rfl ?_
  refine x_l 7 rfl rfl rfl ?_
  refine x_b 10 rfl rfl rfl (fun c => ?_) (fun c => ?_)
  · have h := h.1 c
    refine z_k 32 1 rfl (by decide) rfl ?_
    refine x_g rfl ?_
    exact x_ri rfl (Or.inr ⟨rfl, Or.inr rfl⟩) h
  · have h := h.2 c
    refine x_l 11 rfl rfl rfl ?_
    refine z_gf 14 (.ref 90) rfl ⟨rfl, rfl, rfl⟩ rfl rfl ?_
    refine x_l 15 rfl rfl rfl ?_
    have h1 := h.1
    have h := h.2
    refine z_il 16 120 rfl ⟨rfl, rfl, rfl⟩ rfl h1 rfl ?_
    refine x_l 17 rfl rfl rfl ?_
    refine x_b 20 rfl rfl rfl (fun c => ?_) (fun c => ?_)
    · have h := h.1 c
      refine z_k 36 0 rfl (by decide) rfl ?_
      exact x_ri rfl (Or.inr ⟨rfl, Or.inl rfl⟩) h
    · have h := h.2 c
      refine x_l 21 rfl rfl rfl ?_
      refine z_gf 24 (.ref 91) rfl ⟨rfl, rfl, rfl⟩ rfl rfl ?_
      refine x_l 25 rfl rfl rfl ?_
      have h1 := h.1
      have h := h.2
      refine z_jl 26 120 rfl ⟨rfl, rfl, rfl⟩ rfl h1 rfl ?_
      refine x_l 27 rfl rfl rfl ?_
      refine x_lc 28 rfl rfl ?_
      refine x_b 31 rfl rfl rfl (fun c => ?_) (fun c => ?_)
      · have h := h.1 c
        refine z_k 36 0 rfl (by decide) rfl ?_
        exact x_ri rfl (Or.inr ⟨rfl, Or.inl rfl⟩) h
      · have h := h.2 c
        refine z_k 32 1 rfl (by decide) rfl ?_
        refine x_g rfl ?_
        exact x_ri rfl (Or.inr ⟨rfl, Or.inr rfl⟩) h

theorem bk_Ma_has_0 {k : Nat} {pa pb : Nat} {ga : Nat → Nat} {I : pm_II} {J : pm_JJ} {Q : Option Value → pm_H → Prop} {x1 : Int32} (h : ((x1 < 0 → Q (some (.int 0)) (hp I J (pm_RT pa pb ga))) ∧ (¬ (x1 < 0) → (((I 89 6) ≤ x1 → Q (some (.int 0)) (hp I J (pm_RT pa pb ga))) ∧ (¬ ((I 89 6) ≤ x1) → ((120 ≤ x1 → Q (some (.int 0)) (hp I J (pm_RT pa pb ga))) ∧ (¬ (120 ≤ x1) → Q (some (.int 1)) (hp I J (pm_RT pa pb ga))))))))) : Px k 176 m_Ma_has 0 [.ref 89, .int x1] [] (hp I J (pm_RT pa pb ga)) Q := by
  refine x_l 1 rfl rfl rfl ?_
  refine x_b 4 rfl rfl rfl (fun c => ?_) (fun c => ?_)
  · have h := h.1 c
    refine z_k 23 0 rfl (by decide) rfl ?_
    exact x_ri rfl (Or.inr ⟨rfl, Or.inl rfl⟩) h
  · have h := h.2 c
    refine x_l 5 rfl rfl rfl ?_
    refine x_l 6 rfl rfl rfl ?_
    refine z_gf 9 (.int (I 89 6)) rfl ⟨rfl, rfl, rfl⟩ rfl rfl ?_
    refine x_b 12 rfl rfl rfl (fun c => ?_) (fun c => ?_)
    · have h := h.1 c
      refine z_k 23 0 rfl (by decide) rfl ?_
      exact x_ri rfl (Or.inr ⟨rfl, Or.inl rfl⟩) h
    · have h := h.2 c
      refine x_l 13 rfl rfl rfl ?_
      refine z_k 15 120 rfl (by decide) rfl ?_
      refine x_b 18 rfl rfl rfl (fun c => ?_) (fun c => ?_)
      · have h := h.1 c
        refine z_k 23 0 rfl (by decide) rfl ?_
        exact x_ri rfl (Or.inr ⟨rfl, Or.inl rfl⟩) h
      · have h := h.2 c
        refine z_k 19 1 rfl (by decide) rfl ?_
        refine x_g rfl ?_
        exact x_ri rfl (Or.inr ⟨rfl, Or.inr rfl⟩) h

theorem bk_Ma_standsAhead_0 {k : Nat} {pa pb : Nat} {ga : Nat → Nat} {I : pm_II} {J : pm_JJ} {Q : Option Value → pm_H → Prop} {x1 : Int32} (h : Px k 176 m_Ma_standsAhead 2 [.ref 89, .int x1, .int 0] [] (hp I J (pm_RT pa pb ga)) Q) : Px k 176 m_Ma_standsAhead 0 [.ref 89, .int x1, .null] [] (hp I J (pm_RT pa pb ga)) Q := by
  refine z_k 1 0 rfl (by decide) rfl ?_
  refine x_t 2 rfl rfl rfl ?_
  exact h

theorem bk_Ma_standsAhead_2 {k : Nat} {pa pb : Nat} {ga : Nat → Nat} {I : pm_II} {J : pm_JJ} {Q : Option Value → pm_H → Prop} {x1 : Int32} {x2 : Int32} (h : ((x1 ≤ x2 → Q (some (.int 0)) (hp I J (pm_RT pa pb ga))) ∧ (¬ (x1 ≤ x2) → vp_in x2 40 ∧ vp_in x1 40 ∧ ((¬ (I 93 ((x2 : Int32).toNatClampNeg)) = (I 93 ((x1 : Int32).toNatClampNeg)) → Px k 176 m_Ma_standsAhead 2 [.ref 89, .int x1, .int (x2 + Int32.ofInt 1)] [] (hp I J (pm_RT pa pb ga)) Q) ∧ (¬ (¬ (I 93 ((x2 : Int32).toNatClampNeg)) = (I 93 ((x1 : Int32).toNatClampNeg))) → vp_in x2 40 ∧ vp_in x1 40 ∧ ((¬ (lg_cmp (J 94 ((x2 : Int32).toNatClampNeg)) (J 94 ((x1 : Int32).toNatClampNeg))) = 0 → Px k 176 m_Ma_standsAhead 2 [.ref 89, .int x1, .int (x2 + Int32.ofInt 1)] [] (hp I J (pm_RT pa pb ga)) Q) ∧ (¬ (¬ (lg_cmp (J 94 ((x2 : Int32).toNatClampNeg)) (J 94 ((x1 : Int32).toNatClampNeg))) = 0) → Q (some (.int 1)) (hp I J (pm_RT pa pb ga))))))))) : Px k 176 m_Ma_standsAhead 2 [.ref 89, .int x1, .int x2] [] (hp I J (pm_RT pa pb ga)) Q := by
  refine x_l 3 rfl rfl rfl ?_
  refine x_l 4 rfl rfl rfl ?_
  refine x_b 7 rfl rfl rfl (fun c => ?_) (fun c => ?_)
  · have h := h.1 c
    refine z_k 47 0 rfl (by decide) rfl ?_
    exact x_ri rfl (Or.inr ⟨rfl, Or.inl rfl⟩) h
  · have h := h.2 c
    refine x_l 8 rfl rfl rfl ?_
    refine z_gf 11 (.ref 93) rfl ⟨rfl, rfl, rfl⟩ rfl rfl ?_
    refine x_l 12 rfl rfl rfl ?_
    have h1 := h.1
    have h := h.2
    refine z_il 13 40 rfl ⟨rfl, rfl, rfl⟩ rfl h1 rfl ?_
    refine x_l 14 rfl rfl rfl ?_
    refine z_gf 17 (.ref 93) rfl ⟨rfl, rfl, rfl⟩ rfl rfl ?_
    refine x_l 18 rfl rfl rfl ?_
    have h1 := h.1
    have h := h.2
    refine z_il 19 40 rfl ⟨rfl, rfl, rfl⟩ rfl h1 rfl ?_
    refine x_b 22 rfl rfl rfl (fun c => ?_) (fun c => ?_)
    · have h := h.1 c
      refine x_t 43 rfl rfl rfl ?_
      refine x_g rfl ?_
      exact h
    · have h := h.2 c
      refine x_l 23 rfl rfl rfl ?_
      refine z_gf 26 (.ref 94) rfl ⟨rfl, rfl, rfl⟩ rfl rfl ?_
      refine x_l 27 rfl rfl rfl ?_
      have h1 := h.1
      have h := h.2
      refine z_jl 28 40 rfl ⟨rfl, rfl, rfl⟩ rfl h1 rfl ?_
      refine x_l 29 rfl rfl rfl ?_
      refine z_gf 32 (.ref 94) rfl ⟨rfl, rfl, rfl⟩ rfl rfl ?_
      refine x_l 33 rfl rfl rfl ?_
      have h1 := h.1
      have h := h.2
      refine z_jl 34 40 rfl ⟨rfl, rfl, rfl⟩ rfl h1 rfl ?_
      refine x_lc 35 rfl rfl ?_
      refine x_b 38 rfl rfl rfl (fun c => ?_) (fun c => ?_)
      · have h := h.1 c
        refine x_t 43 rfl rfl rfl ?_
        refine x_g rfl ?_
        exact h
      · have h := h.2 c
        refine z_k 39 1 rfl (by decide) rfl ?_
        exact x_ri rfl (Or.inr ⟨rfl, Or.inr rfl⟩) h

theorem bk_Ma_insert_0 {k : Nat} {pa pb : Nat} {ga : Nat → Nat} {I : pm_II} {J : pm_JJ} {Q : Option Value → pm_H → Prop} {x1 : Int32} {y2 : Int64} (h : ((120 ≤ (I 89 6) → Q none (hp I J (pm_RT pa pb ga))) ∧ (¬ (120 ≤ (I 89 6)) → Px k 176 m_Ma_isThere 0 [.ref 89, .int x1, .long y2, .null, .null] [] (hp I J (pm_RT pa pb ga)) (fun r h' => h'.1 = 176 ∧ Px (k + 1) 176 m_Ma_insert 15 [.ref 89, .int x1, .long y2, .null, .null, .null] (r.toList ++ []) h' Q)))) : Px (k + 1) 176 m_Ma_insert 0 [.ref 89, .int x1, .long y2, .null, .null, .null] [] (hp I J (pm_RT pa pb ga)) Q := by
  refine x_l 1 rfl rfl rfl ?_
  refine z_gf 4 (.int (I 89 6)) rfl ⟨rfl, rfl, rfl⟩ rfl rfl ?_
  refine z_k 6 120 rfl (by decide) rfl ?_
  refine x_b 9 rfl rfl rfl (fun c => ?_) (fun c => ?_)
  · have h := h.1 c
    exact x_rv rfl rfl h
  · have h := h.2 c
    refine x_l 10 rfl rfl rfl ?_
    refine x_l 11 rfl rfl rfl ?_
    refine x_l 12 rfl rfl rfl ?_
    exact z_cv (As := [.int x1, .long y2]) (rest := []) (b := 89) rfl at_Ma_isThere rfl rfl (Nat.le_of_ble_eq_true rfl) (Nat.le_of_ble_eq_true rfl) ⟨rfl, rfl, rfl⟩ (by decide) rfl h

theorem bk_Ma_insert_15 {k : Nat} {pa pb : Nat} {ga : Nat → Nat} {I : pm_II} {J : pm_JJ} {Q : Option Value → pm_H → Prop} {x1 : Int32} {y2 : Int64} {s0 : Int32} (h : ((s0 = 0 → Px k 176 m_Ma_placeFor 0 [.ref 89, .int x1, .long y2, .null, .null] [] (hp I J (pm_RT pa pb ga)) (fun r h' => h'.1 = 176 ∧ Px (k + 1) 176 m_Ma_insert 25 [.ref 89, .int x1, .long y2, .null, .null, .null] (r.toList ++ []) h' Q)) ∧ (¬ (s0 = 0) → Q none (hp I J (pm_RT pa pb ga))))) : Px (k + 1) 176 m_Ma_insert 15 [.ref 89, .int x1, .long y2, .null, .null, .null] [.int s0] (hp I J (pm_RT pa pb ga)) Q := by
  refine x_b 18 rfl rfl rfl (fun c => ?_) (fun c => ?_)
  · have h := h.1 c
    refine x_l 20 rfl rfl rfl ?_
    refine x_l 21 rfl rfl rfl ?_
    refine x_l 22 rfl rfl rfl ?_
    exact z_cv (As := [.int x1, .long y2]) (rest := []) (b := 89) rfl at_Ma_placeFor rfl rfl (Nat.le_of_ble_eq_true rfl) (Nat.le_of_ble_eq_true rfl) ⟨rfl, rfl, rfl⟩ (by decide) rfl h
  · have h := h.2 c
    exact x_rv rfl rfl h

theorem bk_Ma_insert_25 {k : Nat} {pa pb : Nat} {ga : Nat → Nat} {I : pm_II} {J : pm_JJ} {Q : Option Value → pm_H → Prop} {x1 : Int32} {y2 : Int64} {s0 : Int32} (h : Px (k + 1) 176 m_Ma_insert 33 [.ref 89, .int x1, .long y2, .null, .int s0, .int (I 89 6)] [] (hp I J (pm_RT pa pb ga)) Q) : Px (k + 1) 176 m_Ma_insert 25 [.ref 89, .int x1, .long y2, .null, .null, .null] [.int s0] (hp I J (pm_RT pa pb ga)) Q := by
  refine x_t 27 rfl rfl rfl ?_
  refine x_l 28 rfl rfl rfl ?_
  refine z_gf 31 (.int (I 89 6)) rfl ⟨rfl, rfl, rfl⟩ rfl rfl ?_
  refine x_t 33 rfl rfl rfl ?_
  exact h

theorem bk_Ma_insert_33 {k : Nat} {pa pb : Nat} {ga : Nat → Nat} {I : pm_II} {J : pm_JJ} {Q : Option Value → pm_H → Prop} {x1 : Int32} {y2 : Int64} {x4 : Int32} {x5 : Int32} (h : ((x5 ≤ x4 → vp_in x4 120 ∧ vp_in x4 120 ∧ vp_in x4 120 ∧ Q none (hp (pm_up (pm_up (pm_up (pm_up I 90 ((x4 : Int32).toNatClampNeg) x1) 92 ((x4 : Int32).toNatClampNeg) (I 89 7)) 89 7 ((I 89 7) + (1 : Int32))) 89 6 ((I 89 6) + (1 : Int32))) (pm_up J 91 ((x4 : Int32).toNatClampNeg) y2) (pm_RT pa pb ga))) ∧ (¬ (x5 ≤ x4) → vp_in (x5 - (1 : Int32)) 120 ∧ vp_in x5 120 ∧ vp_in (x5 - (1 : Int32)) 120 ∧ vp_in x5 120 ∧ vp_in (x5 - (1 : Int32)) 120 ∧ vp_in x5 120 ∧ Px (k + 1) 176 m_Ma_insert 33 [.ref 89, .int x1, .long y2, .null, .int x4, .int (x5 + Int32.ofInt (-1))] [] (hp (pm_up (pm_up I 90 ((x5 : Int32).toNatClampNeg) (I 90 (((x5 - (1 : Int32)) : Int32).toNatClampNeg))) 92 ((x5 : Int32).toNatClampNeg) (I 92 (((x5 - (1 : Int32)) : Int32).toNatClampNeg))) (pm_up J 91 ((x5 : Int32).toNatClampNeg) (J 91 (((x5 - (1 : Int32)) : Int32).toNatClampNeg))) (pm_RT pa pb ga)) Q))) : Px (k + 1) 176 m_Ma_insert 33 [.ref 89, .int x1, .long y2, .null, .int x4, .int x5] [] (hp I J (pm_RT pa pb ga)) Q := by
  refine x_l 35 rfl rfl rfl ?_
  refine x_l 37 rfl rfl rfl ?_
  refine x_b 40 rfl rfl rfl (fun c => ?_) (fun c => ?_)
  · have h := h.1 c
    refine x_l 95 rfl rfl rfl ?_
    refine z_gf 98 (.ref 90) rfl ⟨rfl, rfl, rfl⟩ rfl rfl ?_
    refine x_l 100 rfl rfl rfl ?_
    refine x_l 101 rfl rfl rfl ?_
    have h1 := h.1
    have h := h.2
    refine z_is 102 120 rfl ⟨rfl, rfl, rfl⟩ rfl h1 rfl ?_
    refine x_l 103 rfl rfl rfl ?_
    refine z_gf 106 (.ref 91) rfl ⟨rfl, rfl, rfl⟩ rfl rfl ?_
    refine x_l 108 rfl rfl rfl ?_
    refine x_l 109 rfl rfl rfl ?_
    have h1 := h.1
    have h := h.2
    refine z_js 110 120 rfl ⟨rfl, rfl, rfl⟩ rfl h1 rfl ?_
    refine x_l 111 rfl rfl rfl ?_
    refine z_gf 114 (.ref 92) rfl ⟨rfl, rfl, rfl⟩ rfl rfl ?_
    refine x_l 116 rfl rfl rfl ?_
    refine x_l 117 rfl rfl rfl ?_
    refine z_gf 120 (.int (I 89 7)) rfl ⟨rfl, rfl, rfl⟩ rfl rfl ?_
    have h1 := h.1
    have h := h.2
    refine z_is 121 120 rfl ⟨rfl, rfl, rfl⟩ rfl h1 rfl ?_
    refine x_l 122 rfl rfl rfl ?_
    refine x_s 123 rfl rfl rfl ?_
    refine z_gf 126 (.int (I 89 7)) rfl ⟨rfl, rfl, rfl⟩ rfl rfl ?_
    refine z_k 127 1 rfl (by decide) rfl ?_
    refine x_s 128 rfl rfl rfl ?_
    refine z_pi 131 rfl (Or.inl rfl) rfl (fun z => by cases z) ⟨rfl, rfl, rfl⟩ rfl ?_
    refine x_l 132 rfl rfl rfl ?_
    refine x_s 133 rfl rfl rfl ?_
    refine z_gf 136 (.int (I 89 6)) rfl ⟨rfl, rfl, rfl⟩ rfl rfl ?_
    refine z_k 137 1 rfl (by decide) rfl ?_
    refine x_s 138 rfl rfl rfl ?_
    refine z_pi 141 rfl (Or.inl rfl) rfl (fun z => by cases z) ⟨rfl, rfl, rfl⟩ rfl ?_
    exact x_rv rfl rfl h
  · have h := h.2 c
    refine x_l 41 rfl rfl rfl ?_
    refine z_gf 44 (.ref 90) rfl ⟨rfl, rfl, rfl⟩ rfl rfl ?_
    refine x_l 46 rfl rfl rfl ?_
    refine x_l 47 rfl rfl rfl ?_
    refine z_gf 50 (.ref 90) rfl ⟨rfl, rfl, rfl⟩ rfl rfl ?_
    refine x_l 52 rfl rfl rfl ?_
    refine z_k 53 1 rfl (by decide) rfl ?_
    refine x_s 54 rfl rfl rfl ?_
    have h1 := h.1
    have h := h.2
    refine z_il 55 120 rfl ⟨rfl, rfl, rfl⟩ rfl h1 rfl ?_
    have h1 := h.1
    have h := h.2
    refine z_is 56 120 rfl ⟨rfl, rfl, rfl⟩ rfl h1 rfl ?_
    refine x_l 57 rfl rfl rfl ?_
    refine z_gf 60 (.ref 91) rfl ⟨rfl, rfl, rfl⟩ rfl rfl ?_
    refine x_l 62 rfl rfl rfl ?_
    refine x_l 63 rfl rfl rfl ?_
    refine z_gf 66 (.ref 91) rfl ⟨rfl, rfl, rfl⟩ rfl rfl ?_
    refine x_l 68 rfl rfl rfl ?_
    refine z_k 69 1 rfl (by decide) rfl ?_
    refine x_s 70 rfl rfl rfl ?_
    have h1 := h.1
    have h := h.2
    refine z_jl 71 120 rfl ⟨rfl, rfl, rfl⟩ rfl h1 rfl ?_
    have h1 := h.1
    have h := h.2
    refine z_js 72 120 rfl ⟨rfl, rfl, rfl⟩ rfl h1 rfl ?_
    refine x_l 73 rfl rfl rfl ?_
    refine z_gf 76 (.ref 92) rfl ⟨rfl, rfl, rfl⟩ rfl rfl ?_
    refine x_l 78 rfl rfl rfl ?_
    refine x_l 79 rfl rfl rfl ?_
    refine z_gf 82 (.ref 92) rfl ⟨rfl, rfl, rfl⟩ rfl rfl ?_
    refine x_l 84 rfl rfl rfl ?_
    refine z_k 85 1 rfl (by decide) rfl ?_
    refine x_s 86 rfl rfl rfl ?_
    have h1 := h.1
    have h := h.2
    refine z_il 87 120 rfl ⟨rfl, rfl, rfl⟩ rfl h1 rfl ?_
    have h1 := h.1
    have h := h.2
    refine z_is 88 120 rfl ⟨rfl, rfl, rfl⟩ rfl h1 rfl ?_
    refine x_t 91 rfl rfl rfl ?_
    refine x_g rfl ?_
    exact h

theorem bk_Bu_outdate_0 {k : Nat} {pa pb : Nat} {ga : Nat → Nat} {I : pm_II} {J : pm_JJ} {Q : Option Value → pm_H → Prop} (h : Q none (hp (pm_up I 95 8 1) J (pm_RT pa pb ga))) : Px k 176 m_Bu_outdate 0 [.ref 95] [] (hp I J (pm_RT pa pb ga)) Q := by
  refine x_l 1 rfl rfl rfl ?_
  refine z_k 2 1 rfl (by decide) rfl ?_
  refine z_pi 5 rfl (Or.inr rfl) rfl (fun _ => Or.inr rfl) ⟨rfl, rfl, rfl⟩ rfl ?_
  exact x_rv rfl rfl h

theorem bk_Bu_limit_0 {k : Nat} {pa pb : Nat} {ga : Nat → Nat} {I : pm_II} {J : pm_JJ} {Q : Option Value → pm_H → Prop} {x1 : Int32} {x2 : Int32} (h : Q none (hp (pm_up (pm_up (pm_up I 95 5 x1) 95 6 x2) 95 8 1) J (pm_RT pa pb ga))) : Px k 176 m_Bu_limit 0 [.ref 95, .int x1, .int x2] [] (hp I J (pm_RT pa pb ga)) Q := by
  refine x_l 1 rfl rfl rfl ?_
  refine x_l 2 rfl rfl rfl ?_
  refine z_pi 5 rfl (Or.inl rfl) rfl (fun z => by cases z) ⟨rfl, rfl, rfl⟩ rfl ?_
  refine x_l 6 rfl rfl rfl ?_
  refine x_l 7 rfl rfl rfl ?_
  refine z_pi 10 rfl (Or.inl rfl) rfl (fun z => by cases z) ⟨rfl, rfl, rfl⟩ rfl ?_
  refine x_l 11 rfl rfl rfl ?_
  refine z_k 12 1 rfl (by decide) rfl ?_
  refine z_pi 15 rfl (Or.inr rfl) rfl (fun _ => Or.inr rfl) ⟨rfl, rfl, rfl⟩ rfl ?_
  exact x_rv rfl rfl h

theorem bk_Bu_howMany_0 {k : Nat} {pa pb : Nat} {ga : Nat → Nat} {I : pm_II} {J : pm_JJ} {Q : Option Value → pm_H → Prop} (h : Px k 176 m_Bu_refresh 0 [.ref 95, .ref 89, .null] [] (hp I J (pm_RT pa pb ga)) (fun r h' => h'.1 = 176 ∧ Px (k + 1) 176 m_Bu_howMany 5 [.ref 95, .ref 89] (r.toList ++ []) h' Q)) : Px (k + 1) 176 m_Bu_howMany 0 [.ref 95, .ref 89] [] (hp I J (pm_RT pa pb ga)) Q := by
  refine x_l 1 rfl rfl rfl ?_
  refine x_l 2 rfl rfl rfl ?_
  exact z_cv (As := [.ref 89]) (rest := []) (b := 95) rfl at_Bu_refresh rfl rfl (Nat.le_of_ble_eq_true rfl) (Nat.le_of_ble_eq_true rfl) ⟨rfl, rfl, rfl⟩ (by decide) rfl h

theorem bk_Bu_howMany_5 {k : Nat} {pa pb : Nat} {ga : Nat → Nat} {I : pm_II} {J : pm_JJ} {Q : Option Value → pm_H → Prop} (h : Q (some (.int (I 95 7))) (hp I J (pm_RT pa pb ga))) : Px (k + 1) 176 m_Bu_howMany 5 [.ref 95, .ref 89] [] (hp I J (pm_RT pa pb ga)) Q := by
  refine x_l 6 rfl rfl rfl ?_
  refine z_gf 9 (.int (I 95 7)) rfl ⟨rfl, rfl, rfl⟩ rfl rfl ?_
  exact x_ri rfl (Or.inl rfl) h

theorem bk_Bu_refresh_0 {k : Nat} {pa pb : Nat} {ga : Nat → Nat} {I : pm_II} {J : pm_JJ} {Q : Option Value → pm_H → Prop} (h : ((¬ (I 95 8) = 0 → Px (k + 1) 176 m_Bu_refresh 20 [.ref 95, .ref 89, .int 0] [] (hp (pm_up (pm_up I 95 8 0) 95 7 0) J (pm_RT pa pb ga)) Q) ∧ (¬ (¬ (I 95 8) = 0) → Q none (hp I J (pm_RT pa pb ga))))) : Px (k + 1) 176 m_Bu_refresh 0 [.ref 95, .ref 89, .null] [] (hp I J (pm_RT pa pb ga)) Q := by
  refine x_l 1 rfl rfl rfl ?_
  refine z_gf 4 (.int (I 95 8)) rfl ⟨rfl, rfl, rfl⟩ rfl rfl ?_
  refine x_b 7 rfl rfl rfl (fun c => ?_) (fun c => ?_)
  · have h := h.1 c
    refine x_l 9 rfl rfl rfl ?_
    refine z_k 10 0 rfl (by decide) rfl ?_
    refine z_pi 13 rfl (Or.inr rfl) rfl (fun _ => Or.inl rfl) ⟨rfl, rfl, rfl⟩ rfl ?_
    refine x_l 14 rfl rfl rfl ?_
    refine z_k 15 0 rfl (by decide) rfl ?_
    refine z_pi 18 rfl (Or.inl rfl) rfl (fun z => by cases z) ⟨rfl, rfl, rfl⟩ rfl ?_
    refine z_k 19 0 rfl (by decide) rfl ?_
    refine x_t 20 rfl rfl rfl ?_
    exact h
  · have h := h.2 c
    exact x_rv rfl rfl h

theorem bk_Bu_refresh_20 {k : Nat} {pa pb : Nat} {ga : Nat → Nat} {I : pm_II} {J : pm_JJ} {Q : Option Value → pm_H → Prop} {x2 : Int32} (h : ((120 ≤ x2 → Px (k + 1) 176 m_Bu_refresh 41 [.ref 95, .ref 89, .int 0] [] (hp I J (pm_RT pa pb ga)) Q) ∧ (¬ (120 ≤ x2) → vp_in x2 120 ∧ Px (k + 1) 176 m_Bu_refresh 20 [.ref 95, .ref 89, .int (x2 + Int32.ofInt 1)] [] (hp (pm_up I 96 ((x2 : Int32).toNatClampNeg) (-1)) J (pm_RT pa pb ga)) Q))) : Px (k + 1) 176 m_Bu_refresh 20 [.ref 95, .ref 89, .int x2] [] (hp I J (pm_RT pa pb ga)) Q := by
  refine x_l 21 rfl rfl rfl ?_
  refine z_k 23 120 rfl (by decide) rfl ?_
  refine x_b 26 rfl rfl rfl (fun c => ?_) (fun c => ?_)
  · have h := h.1 c
    refine z_k 40 0 rfl (by decide) rfl ?_
    refine x_t 41 rfl rfl rfl ?_
    exact h
  · have h := h.2 c
    refine x_l 27 rfl rfl rfl ?_
    refine z_gf 30 (.ref 96) rfl ⟨rfl, rfl, rfl⟩ rfl rfl ?_
    refine x_l 31 rfl rfl rfl ?_
    refine z_k 32 (-1) rfl (by decide) rfl ?_
    have h1 := h.1
    have h := h.2
    refine z_is 33 120 rfl ⟨rfl, rfl, rfl⟩ rfl h1 rfl ?_
    refine x_t 36 rfl rfl rfl ?_
    refine x_g rfl ?_
    exact h

theorem bk_Bu_refresh_41 {k : Nat} {pa pb : Nat} {ga : Nat → Nat} {I : pm_II} {J : pm_JJ} {Q : Option Value → pm_H → Prop} {x2 : Int32} (h : ((2 < x2 → Q none (hp I J (pm_RT pa pb ga))) ∧ (¬ (2 < x2) → Px k 176 m_Bu_bundleKind 0 [.ref 95, .ref 89, .int x2, .null, .null, .null] [] (hp I J (pm_RT pa pb ga)) (fun r h' => h'.1 = 176 ∧ Px (k + 1) 176 m_Bu_refresh 52 [.ref 95, .ref 89, .int x2] (r.toList ++ []) h' Q)))) : Px (k + 1) 176 m_Bu_refresh 41 [.ref 95, .ref 89, .int x2] [] (hp I J (pm_RT pa pb ga)) Q := by
  refine x_l 42 rfl rfl rfl ?_
  refine z_k 43 2 rfl (by decide) rfl ?_
  refine x_b 46 rfl rfl rfl (fun c => ?_) (fun c => ?_)
  · have h := h.1 c
    exact x_rv rfl rfl h
  · have h := h.2 c
    refine x_l 47 rfl rfl rfl ?_
    refine x_l 48 rfl rfl rfl ?_
    refine x_l 49 rfl rfl rfl ?_
    exact z_cv (As := [.ref 89, .int x2]) (rest := []) (b := 95) rfl at_Bu_bundleKind rfl rfl (Nat.le_of_ble_eq_true rfl) (Nat.le_of_ble_eq_true rfl) ⟨rfl, rfl, rfl⟩ (by decide) rfl h

theorem bk_Bu_refresh_52 {k : Nat} {pa pb : Nat} {ga : Nat → Nat} {I : pm_II} {J : pm_JJ} {Q : Option Value → pm_H → Prop} {x2 : Int32} (h : Px (k + 1) 176 m_Bu_refresh 41 [.ref 95, .ref 89, .int (x2 + Int32.ofInt 1)] [] (hp I J (pm_RT pa pb ga)) Q) : Px (k + 1) 176 m_Bu_refresh 52 [.ref 95, .ref 89, .int x2] [] (hp I J (pm_RT pa pb ga)) Q := by
  refine x_t 55 rfl rfl rfl ?_
  refine x_g rfl ?_
  exact h

theorem bk_Bu_bundleKind_0 {k : Nat} {pa pb : Nat} {ga : Nat → Nat} {I : pm_II} {J : pm_JJ} {Q : Option Value → pm_H → Prop} {x2 : Int32} (h : Px (k + 1) 176 m_Bu_bundleKind 5 [.ref 95, .ref 89, .int x2, .int 0, .int 0, .null] [] (hp I J (pm_RT pa pb ga)) Q) : Px (k + 1) 176 m_Bu_bundleKind 0 [.ref 95, .ref 89, .int x2, .null, .null, .null] [] (hp I J (pm_RT pa pb ga)) Q := by
  refine z_k 1 0 rfl (by decide) rfl ?_
  refine x_t 2 rfl rfl rfl ?_
  refine z_k 3 0 rfl (by decide) rfl ?_
  refine x_t 5 rfl rfl rfl ?_
  exact h

theorem bk_Bu_bundleKind_5 {k : Nat} {pa pb : Nat} {ga : Nat → Nat} {I : pm_II} {J : pm_JJ} {Q : Option Value → pm_H → Prop} {x2 : Int32} {x3 : Int32} {x4 : Int32} (h : Px k 176 m_Ma_howMany 0 [.ref 89] [] (hp I J (pm_RT pa pb ga)) (fun r h' => h'.1 = 176 ∧ Px (k + 1) 176 m_Bu_bundleKind 11 [.ref 95, .ref 89, .int x2, .int x3, .int x4, .null] (r.toList ++ [.int x4]) h' Q)) : Px (k + 1) 176 m_Bu_bundleKind 5 [.ref 95, .ref 89, .int x2, .int x3, .int x4, .null] [] (hp I J (pm_RT pa pb ga)) Q := by
  refine x_l 7 rfl rfl rfl ?_
  refine x_l 8 rfl rfl rfl ?_
  exact z_cv (As := []) (rest := [.int x4]) (b := 89) rfl at_Ma_howMany rfl rfl (Nat.le_of_ble_eq_true rfl) (Nat.le_of_ble_eq_true rfl) ⟨rfl, rfl, rfl⟩ (by decide) rfl h

theorem bk_Bu_bundleKind_11 {k : Nat} {pa pb : Nat} {ga : Nat → Nat} {I : pm_II} {J : pm_JJ} {Q : Option Value → pm_H → Prop} {x2 : Int32} {x3 : Int32} {x4 : Int32} {s0 : Int32} {s1 : Int32} (h : ((s1 ≤ s0 → Px (k + 1) 176 m_Bu_bundleKind 49 [.ref 95, .ref 89, .int x2, .int x3, .int x4, .null] [] (hp I J (pm_RT pa pb ga)) Q) ∧ (¬ (s1 ≤ s0) → ((120 ≤ x4 → Px (k + 1) 176 m_Bu_bundleKind 49 [.ref 95, .ref 89, .int x2, .int x3, .int x4, .null] [] (hp I J (pm_RT pa pb ga)) Q) ∧ (¬ (120 ≤ x4) → vp_in x4 120 ∧ ((¬ (I 96 ((x4 : Int32).toNatClampNeg)) = (-1) → Px (k + 1) 176 m_Bu_bundleKind 5 [.ref 95, .ref 89, .int x2, .int x3, .int (x4 + Int32.ofInt 1), .null] [] (hp I J (pm_RT pa pb ga)) Q) ∧ (¬ (¬ (I 96 ((x4 : Int32).toNatClampNeg)) = (-1)) → vp_in x3 120 ∧ Px (k + 1) 176 m_Bu_bundleKind 5 [.ref 95, .ref 89, .int x2, .int (x3 + Int32.ofInt 1), .int (x4 + Int32.ofInt 1), .null] [] (hp (pm_up I 97 ((x3 : Int32).toNatClampNeg) x4) J (pm_RT pa pb ga)) Q))))))) : Px (k + 1) 176 m_Bu_bundleKind 11 [.ref 95, .ref 89, .int x2, .int x3, .int x4, .null] [.int s1, .int s0] (hp I J (pm_RT pa pb ga)) Q := by
  refine x_b 14 rfl rfl rfl (fun c => ?_) (fun c => ?_)
  · have h := h.1 c
    exact h
  · have h := h.2 c
    refine x_l 16 rfl rfl rfl ?_
    refine z_k 18 120 rfl (by decide) rfl ?_
    refine x_b 21 rfl rfl rfl (fun c => ?_) (fun c => ?_)
    · have h := h.1 c
      exact h
    · have h := h.2 c
      refine x_l 22 rfl rfl rfl ?_
      refine z_gf 25 (.ref 96) rfl ⟨rfl, rfl, rfl⟩ rfl rfl ?_
      refine x_l 27 rfl rfl rfl ?_
      have h1 := h.1
      have h := h.2
      refine z_il 28 120 rfl ⟨rfl, rfl, rfl⟩ rfl h1 rfl ?_
      refine z_k 29 (-1) rfl (by decide) rfl ?_
      refine x_b 32 rfl rfl rfl (fun c => ?_) (fun c => ?_)
      · have h := h.1 c
        refine x_t 46 rfl rfl rfl ?_
        refine x_g rfl ?_
        exact h
      · have h := h.2 c
        refine x_l 33 rfl rfl rfl ?_
        refine z_gf 36 (.ref 97) rfl ⟨rfl, rfl, rfl⟩ rfl rfl ?_
        refine x_l 37 rfl rfl rfl ?_
        refine x_l 39 rfl rfl rfl ?_
        have h1 := h.1
        have h := h.2
        refine z_is 40 120 rfl ⟨rfl, rfl, rfl⟩ rfl h1 rfl ?_
        refine x_t 43 rfl rfl rfl ?_
        refine x_t 46 rfl rfl rfl ?_
        refine x_g rfl ?_
        exact h

theorem bk_Bu_bundleKind_49 {k : Nat} {pa pb : Nat} {ga : Nat → Nat} {I : pm_II} {J : pm_JJ} {Q : Option Value → pm_H → Prop} {x2 : Int32} {x3 : Int32} {x4 : Int32} (h : Px (k + 1) 176 m_Bu_bundleKind 55 [.ref 95, .ref 89, .int x2, .int x3, .int 0, .int 1] [] (hp I J (pm_RT pa pb ga)) Q) : Px (k + 1) 176 m_Bu_bundleKind 49 [.ref 95, .ref 89, .int x2, .int x3, .int x4, .null] [] (hp I J (pm_RT pa pb ga)) Q := by
  refine z_k 50 0 rfl (by decide) rfl ?_
  refine x_t 52 rfl rfl rfl ?_
  refine z_k 53 1 rfl (by decide) rfl ?_
  refine x_t 55 rfl rfl rfl ?_
  exact h

theorem bk_Bu_bundleKind_55 {k : Nat} {pa pb : Nat} {ga : Nat → Nat} {I : pm_II} {J : pm_JJ} {Q : Option Value → pm_H → Prop} {x2 : Int32} {x3 : Int32} {x4 : Int32} {x5 : Int32} (h : ((x3 < x5 → Q none (hp I J (pm_RT pa pb ga))) ∧ (¬ (x3 < x5) → ((x5 = x3 → Px (k + 1) 176 m_Bu_bundleKind 94 [.ref 95, .ref 89, .int x2, .int x3, .int x4, .int x5] [] (hp I J (pm_RT pa pb ga)) Q) ∧ (¬ (x5 = x3) → vp_in x5 120 ∧ Px k 176 m_Bu_groupOf 0 [.ref 89, .int (I 97 ((x5 : Int32).toNatClampNeg)), .int x2, .null] [] (hp I J (pm_RT pa pb ga)) (fun r h' => h'.1 = 176 ∧ Px (k + 1) 176 m_Bu_bundleKind 79 [.ref 95, .ref 89, .int x2, .int x3, .int x4, .int x5] (r.toList ++ []) h' Q)))))) : Px (k + 1) 176 m_Bu_bundleKind 55 [.ref 95, .ref 89, .int x2, .int x3, .int x4, .int x5] [] (hp I J (pm_RT pa pb ga)) Q := by
  refine x_l 57 rfl rfl rfl ?_
  refine x_l 58 rfl rfl rfl ?_
  refine x_b 61 rfl rfl rfl (fun c => ?_) (fun c => ?_)
  · have h := h.1 c
    exact x_rv rfl rfl h
  · have h := h.2 c
    refine x_l 63 rfl rfl rfl ?_
    refine x_l 64 rfl rfl rfl ?_
    refine x_b 67 rfl rfl rfl (fun c => ?_) (fun c => ?_)
    · have h := h.1 c
      exact h
    · have h := h.2 c
      refine x_l 68 rfl rfl rfl ?_
      refine x_l 69 rfl rfl rfl ?_
      refine z_gf 72 (.ref 97) rfl ⟨rfl, rfl, rfl⟩ rfl rfl ?_
      refine x_l 74 rfl rfl rfl ?_
      have h1 := h.1
      have h := h.2
      refine z_il 75 120 rfl ⟨rfl, rfl, rfl⟩ rfl h1 rfl ?_
      refine x_l 76 rfl rfl rfl ?_
      exact z_cs (As := [.ref 89, .int (I 97 ((x5 : Int32).toNatClampNeg)), .int x2]) (rest := []) rfl at_Bu_groupOf rfl rfl (Nat.le_of_ble_eq_true rfl) (Nat.le_of_ble_eq_true rfl) rfl h

theorem bk_Bu_bundleKind_79 {k : Nat} {pa pb : Nat} {ga : Nat → Nat} {I : pm_II} {J : pm_JJ} {Q : Option Value → pm_H → Prop} {x2 : Int32} {x3 : Int32} {x4 : Int32} {x5 : Int32} {s0 : Int32} (h : vp_in x4 120 ∧ Px k 176 m_Bu_groupOf 0 [.ref 89, .int (I 97 ((x4 : Int32).toNatClampNeg)), .int x2, .null] [] (hp I J (pm_RT pa pb ga)) (fun r h' => h'.1 = 176 ∧ Px (k + 1) 176 m_Bu_bundleKind 91 [.ref 95, .ref 89, .int x2, .int x3, .int x4, .int x5] (r.toList ++ [.int s0]) h' Q)) : Px (k + 1) 176 m_Bu_bundleKind 79 [.ref 95, .ref 89, .int x2, .int x3, .int x4, .int x5] [.int s0] (hp I J (pm_RT pa pb ga)) Q := by
  refine x_l 80 rfl rfl rfl ?_
  refine x_l 81 rfl rfl rfl ?_
  refine z_gf 84 (.ref 97) rfl ⟨rfl, rfl, rfl⟩ rfl rfl ?_
  refine x_l 86 rfl rfl rfl ?_
  have h1 := h.1
  have h := h.2
  refine z_il 87 120 rfl ⟨rfl, rfl, rfl⟩ rfl h1 rfl ?_
  refine x_l 88 rfl rfl rfl ?_
  exact z_cs (As := [.ref 89, .int (I 97 ((x4 : Int32).toNatClampNeg)), .int x2]) (rest := [.int s0]) rfl at_Bu_groupOf rfl rfl (Nat.le_of_ble_eq_true rfl) (Nat.le_of_ble_eq_true rfl) rfl h

theorem bk_Bu_bundleKind_91 {k : Nat} {pa pb : Nat} {ga : Nat → Nat} {I : pm_II} {J : pm_JJ} {Q : Option Value → pm_H → Prop} {x2 : Int32} {x3 : Int32} {x4 : Int32} {x5 : Int32} {s0 : Int32} {s1 : Int32} (h : ((s0 = s1 → Px (k + 1) 176 m_Bu_bundleKind 55 [.ref 95, .ref 89, .int x2, .int x3, .int x4, .int (x5 + Int32.ofInt 1)] [] (hp I J (pm_RT pa pb ga)) Q) ∧ (¬ (s0 = s1) → Px (k + 1) 176 m_Bu_bundleKind 94 [.ref 95, .ref 89, .int x2, .int x3, .int x4, .int x5] [] (hp I J (pm_RT pa pb ga)) Q))) : Px (k + 1) 176 m_Bu_bundleKind 91 [.ref 95, .ref 89, .int x2, .int x3, .int x4, .int x5] [.int s1, .int s0] (hp I J (pm_RT pa pb ga)) Q := by
  refine x_b 94 rfl rfl rfl (fun c => ?_) (fun c => ?_)
  · have h := h.1 c
    refine x_t 110 rfl rfl rfl ?_
    refine x_g rfl ?_
    exact h
  · have h := h.2 c
    exact h

theorem bk_Bu_bundleKind_94 {k : Nat} {pa pb : Nat} {ga : Nat → Nat} {I : pm_II} {J : pm_JJ} {Q : Option Value → pm_H → Prop} {x2 : Int32} {x3 : Int32} {x4 : Int32} {x5 : Int32} (h : Px k 176 m_Bu_bundleGroup 0 [.ref 95, .int x4, .int x5, .int x2, .null, .null, .null] [] (hp I J (pm_RT pa pb ga)) (fun r h' => h'.1 = 176 ∧ Px (k + 1) 176 m_Bu_bundleKind 103 [.ref 95, .ref 89, .int x2, .int x3, .int x4, .int x5] (r.toList ++ []) h' Q)) : Px (k + 1) 176 m_Bu_bundleKind 94 [.ref 95, .ref 89, .int x2, .int x3, .int x4, .int x5] [] (hp I J (pm_RT pa pb ga)) Q := by
  refine x_l 95 rfl rfl rfl ?_
  refine x_l 97 rfl rfl rfl ?_
  refine x_l 99 rfl rfl rfl ?_
  refine x_l 100 rfl rfl rfl ?_
  exact z_cv (As := [.int x4, .int x5, .int x2]) (rest := []) (b := 95) rfl at_Bu_bundleGroup rfl rfl (Nat.le_of_ble_eq_true rfl) (Nat.le_of_ble_eq_true rfl) ⟨rfl, rfl, rfl⟩ (by decide) rfl h

theorem bk_Bu_bundleKind_103 {k : Nat} {pa pb : Nat} {ga : Nat → Nat} {I : pm_II} {J : pm_JJ} {Q : Option Value → pm_H → Prop} {x2 : Int32} {x3 : Int32} {x4 : Int32} {x5 : Int32} (h : Px (k + 1) 176 m_Bu_bundleKind 55 [.ref 95, .ref 89, .int x2, .int x3, .int x5, .int (x5 + Int32.ofInt 1)] [] (hp I J (pm_RT pa pb ga)) Q) : Px (k + 1) 176 m_Bu_bundleKind 103 [.ref 95, .ref 89, .int x2, .int x3, .int x4, .int x5] [] (hp I J (pm_RT pa pb ga)) Q := by
  refine x_l 105 rfl rfl rfl ?_
  refine x_t 107 rfl rfl rfl ?_
  refine x_t 110 rfl rfl rfl ?_
  refine x_g rfl ?_
  exact h

theorem bk_Ma_howMany_0 {k : Nat} {pa pb : Nat} {ga : Nat → Nat} {I : pm_II} {J : pm_JJ} {Q : Option Value → pm_H → Prop} (h : Q (some (.int (I 89 6))) (hp I J (pm_RT pa pb ga))) : Px k 176 m_Ma_howMany 0 [.ref 89] [] (hp I J (pm_RT pa pb ga)) Q := by
  refine x_l 1 rfl rfl rfl ?_
  refine z_gf 4 (.int (I 89 6)) rfl ⟨rfl, rfl, rfl⟩ rfl rfl ?_
  exact x_ri rfl (Or.inl rfl) h

theorem bk_Bu_groupOf_0 {k : Nat} {pa pb : Nat} {ga : Nat → Nat} {I : pm_II} {J : pm_JJ} {Q : Option Value → pm_H → Prop} {x1 : Int32} {x2 : Int32} (h : Px k 176 m_Ma_codeOf 0 [.ref 89, .int x1] [] (hp I J (pm_RT pa pb ga)) (fun r h' => h'.1 = 176 ∧ Px (k + 1) 176 m_Bu_groupOf 5 [.ref 89, .int x1, .int x2, .null] (r.toList ++ []) h' Q)) : Px (k + 1) 176 m_Bu_groupOf 0 [.ref 89, .int x1, .int x2, .null] [] (hp I J (pm_RT pa pb ga)) Q := by
  refine x_l 1 rfl rfl rfl ?_
  refine x_l 2 rfl rfl rfl ?_
  exact z_cv (As := [.int x1]) (rest := []) (b := 89) rfl at_Ma_codeOf rfl rfl (Nat.le_of_ble_eq_true rfl) (Nat.le_of_ble_eq_true rfl) ⟨rfl, rfl, rfl⟩ (by decide) rfl h

theorem bk_Bu_groupOf_5 {k : Nat} {pa pb : Nat} {ga : Nat → Nat} {I : pm_II} {J : pm_JJ} {Q : Option Value → pm_H → Prop} {x1 : Int32} {x2 : Int32} {s0 : Int32} (h : ((¬ x2 = 0 → ((¬ x2 = 2 → Q (some (.int (s0 / 100))) (hp I J (pm_RT pa pb ga))) ∧ (¬ (¬ x2 = 2) → Q (some (.int 0)) (hp I J (pm_RT pa pb ga))))) ∧ (¬ (¬ x2 = 0) → Q (some (.int s0)) (hp I J (pm_RT pa pb ga))))) : Px (k + 1) 176 m_Bu_groupOf 5 [.ref 89, .int x1, .int x2, .null] [.int s0] (hp I J (pm_RT pa pb ga)) Q := by
  refine x_t 6 rfl rfl rfl ?_
  refine x_l 7 rfl rfl rfl ?_
  refine x_b 10 rfl rfl rfl (fun c => ?_) (fun c => ?_)
  · have h := h.1 c
    refine x_l 13 rfl rfl rfl ?_
    refine z_k 14 2 rfl (by decide) rfl ?_
    refine x_b 17 rfl rfl rfl (fun c => ?_) (fun c => ?_)
    · have h := h.1 c
      refine x_l 22 rfl rfl rfl ?_
      refine z_k 24 100 rfl (by decide) rfl ?_
      refine x_dv 25 rfl (by decide) rfl ?_
      exact x_ri rfl (Or.inl rfl) h
    · have h := h.2 c
      refine z_k 18 0 rfl (by decide) rfl ?_
      refine x_g rfl ?_
      exact x_ri rfl (Or.inl rfl) h
  · have h := h.2 c
    refine x_l 11 rfl rfl rfl ?_
    exact x_ri rfl (Or.inl rfl) h

theorem bk_Ma_codeOf_0 {k : Nat} {pa pb : Nat} {ga : Nat → Nat} {I : pm_II} {J : pm_JJ} {Q : Option Value → pm_H → Prop} {x1 : Int32} (h : Px k 176 m_Ma_has 0 [.ref 89, .int x1] [] (hp I J (pm_RT pa pb ga)) (fun r h' => h'.1 = 176 ∧ Px (k + 1) 176 m_Ma_codeOf 5 [.ref 89, .int x1] (r.toList ++ []) h' Q)) : Px (k + 1) 176 m_Ma_codeOf 0 [.ref 89, .int x1] [] (hp I J (pm_RT pa pb ga)) Q := by
  refine x_l 1 rfl rfl rfl ?_
  refine x_l 2 rfl rfl rfl ?_
  exact z_cv (As := [.int x1]) (rest := []) (b := 89) rfl at_Ma_has rfl rfl (Nat.le_of_ble_eq_true rfl) (Nat.le_of_ble_eq_true rfl) ⟨rfl, rfl, rfl⟩ (by decide) rfl h

theorem bk_Ma_codeOf_5 {k : Nat} {pa pb : Nat} {ga : Nat → Nat} {I : pm_II} {J : pm_JJ} {Q : Option Value → pm_H → Prop} {x1 : Int32} {s0 : Int32} (h : ((s0 = 0 → Q (some (.int (-1))) (hp I J (pm_RT pa pb ga))) ∧ (¬ (s0 = 0) → vp_in x1 120 ∧ Q (some (.int (I 90 ((x1 : Int32).toNatClampNeg)))) (hp I J (pm_RT pa pb ga))))) : Px (k + 1) 176 m_Ma_codeOf 5 [.ref 89, .int x1] [.int s0] (hp I J (pm_RT pa pb ga)) Q := by
  refine x_b 8 rfl rfl rfl (fun c => ?_) (fun c => ?_)
  · have h := h.1 c
    refine z_k 18 (-1) rfl (by decide) rfl ?_
    exact x_ri rfl (Or.inl rfl) h
  · have h := h.2 c
    refine x_l 9 rfl rfl rfl ?_
    refine z_gf 12 (.ref 90) rfl ⟨rfl, rfl, rfl⟩ rfl rfl ?_
    refine x_l 13 rfl rfl rfl ?_
    have h1 := h.1
    have h := h.2
    refine z_il 14 120 rfl ⟨rfl, rfl, rfl⟩ rfl h1 rfl ?_
    refine x_g rfl ?_
    exact x_ri rfl (Or.inl rfl) h

theorem bk_Bu_bundleGroup_0 {k : Nat} {pa pb : Nat} {ga : Nat → Nat} {I : pm_II} {J : pm_JJ} {Q : Option Value → pm_H → Prop} {x1 : Int32} {x2 : Int32} {x3 : Int32} (h : ((¬ x3 = 2 → Px (k + 1) 176 m_Bu_bundleGroup 18 [.ref 95, .int x1, .int x2, .int x3, .int (I 95 5), .int x1, .null] [] (hp I J (pm_RT pa pb ga)) Q) ∧ (¬ (¬ x3 = 2) → Px (k + 1) 176 m_Bu_bundleGroup 18 [.ref 95, .int x1, .int x2, .int x3, .int 1, .int x1, .null] [] (hp I J (pm_RT pa pb ga)) Q))) : Px (k + 1) 176 m_Bu_bundleGroup 0 [.ref 95, .int x1, .int x2, .int x3, .null, .null, .null] [] (hp I J (pm_RT pa pb ga)) Q := by
  refine x_l 1 rfl rfl rfl ?_
  refine z_k 2 2 rfl (by decide) rfl ?_
  refine x_b 5 rfl rfl rfl (fun c => ?_) (fun c => ?_)
  · have h := h.1 c
    refine x_l 10 rfl rfl rfl ?_
    refine z_gf 13 (.int (I 95 5)) rfl ⟨rfl, rfl, rfl⟩ rfl rfl ?_
    refine x_t 15 rfl rfl rfl ?_
    refine x_l 16 rfl rfl rfl ?_
    refine x_t 18 rfl rfl rfl ?_
    exact h
  · have h := h.2 c
    refine z_k 6 1 rfl (by decide) rfl ?_
    refine x_g rfl ?_
    refine x_t 15 rfl rfl rfl ?_
    refine x_l 16 rfl rfl rfl ?_
    refine x_t 18 rfl rfl rfl ?_
    exact h

theorem bk_Bu_bundleGroup_18 {k : Nat} {pa pb : Nat} {ga : Nat → Nat} {I : pm_II} {J : pm_JJ} {Q : Option Value → pm_H → Prop} {x1 : Int32} {x2 : Int32} {x3 : Int32} {x4 : Int32} {x5 : Int32} (h : ((x2 ≤ x5 → Px (k + 1) 176 m_Bu_bundleGroup 72 [.ref 95, .int x1, .int x2, .int x3, .int x4, .int x5, .null] [] (hp I J (pm_RT pa pb ga)) Q) ∧ (¬ (x2 ≤ x5) → (((I 95 6) ≤ 0 → Px (k + 1) 176 m_Bu_bundleGroup 72 [.ref 95, .int x1, .int x2, .int x3, .int x4, .int x5, .null] [] (hp I J (pm_RT pa pb ga)) Q) ∧ (¬ ((I 95 6) ≤ 0) → Px k 176 m_Jm_min_II 0 [.int (I 95 6), .int (x2 - x5)] [] (hp I J (pm_RT pa pb ga)) (fun r h' => h'.1 = 176 ∧ Px (k + 1) 176 m_Bu_bundleGroup 42 [.ref 95, .int x1, .int x2, .int x3, .int x4, .int x5, .null] (r.toList ++ []) h' Q)))))) : Px (k + 1) 176 m_Bu_bundleGroup 18 [.ref 95, .int x1, .int x2, .int x3, .int x4, .int x5, .null] [] (hp I J (pm_RT pa pb ga)) Q := by
  refine x_l 20 rfl rfl rfl ?_
  refine x_l 21 rfl rfl rfl ?_
  refine x_b 24 rfl rfl rfl (fun c => ?_) (fun c => ?_)
  · have h := h.1 c
    exact h
  · have h := h.2 c
    refine x_l 25 rfl rfl rfl ?_
    refine z_gf 28 (.int (I 95 6)) rfl ⟨rfl, rfl, rfl⟩ rfl rfl ?_
    refine x_b 31 rfl rfl rfl (fun c => ?_) (fun c => ?_)
    · have h := h.1 c
      exact h
    · have h := h.2 c
      refine x_l 32 rfl rfl rfl ?_
      refine z_gf 35 (.int (I 95 6)) rfl ⟨rfl, rfl, rfl⟩ rfl rfl ?_
      refine x_l 36 rfl rfl rfl ?_
      refine x_l 38 rfl rfl rfl ?_
      refine x_s 39 rfl rfl rfl ?_
      exact z_cs (As := [.int (I 95 6), .int (x2 - x5)]) (rest := []) rfl at_Jm_min_II rfl rfl (Nat.le_of_ble_eq_true rfl) (Nat.le_of_ble_eq_true rfl) rfl h

theorem bk_Bu_bundleGroup_42 {k : Nat} {pa pb : Nat} {ga : Nat → Nat} {I : pm_II} {J : pm_JJ} {Q : Option Value → pm_H → Prop} {x1 : Int32} {x2 : Int32} {x3 : Int32} {x4 : Int32} {x5 : Int32} {s0 : Int32} (h : ((s0 < x4 → Px (k + 1) 176 m_Bu_bundleGroup 60 [.ref 95, .int x1, .int x2, .int x3, .int x4, .int x5, .int s0] [] (hp I J (pm_RT pa pb ga)) Q) ∧ (¬ (s0 < x4) → Px k 176 m_Bu_makeBundle 0 [.ref 95, .int x5, .int s0, .int x3, .null] [] (hp I J (pm_RT pa pb ga)) (fun r h' => h'.1 = 176 ∧ Px (k + 1) 176 m_Bu_bundleGroup 60 [.ref 95, .int x1, .int x2, .int x3, .int x4, .int x5, .int s0] (r.toList ++ []) h' Q)))) : Px (k + 1) 176 m_Bu_bundleGroup 42 [.ref 95, .int x1, .int x2, .int x3, .int x4, .int x5, .null] [.int s0] (hp I J (pm_RT pa pb ga)) Q := by
  refine x_t 44 rfl rfl rfl ?_
  refine x_l 46 rfl rfl rfl ?_
  refine x_l 48 rfl rfl rfl ?_
  refine x_b 51 rfl rfl rfl (fun c => ?_) (fun c => ?_)
  · have h := h.1 c
    exact h
  · have h := h.2 c
    refine x_l 52 rfl rfl rfl ?_
    refine x_l 54 rfl rfl rfl ?_
    refine x_l 56 rfl rfl rfl ?_
    refine x_l 57 rfl rfl rfl ?_
    exact z_cv (As := [.int x5, .int s0, .int x3]) (rest := []) (b := 95) rfl at_Bu_makeBundle rfl rfl (Nat.le_of_ble_eq_true rfl) (Nat.le_of_ble_eq_true rfl) ⟨rfl, rfl, rfl⟩ (by decide) rfl h

theorem bk_Bu_bundleGroup_60 {k : Nat} {pa pb : Nat} {ga : Nat → Nat} {I : pm_II} {J : pm_JJ} {Q : Option Value → pm_H → Prop} {x1 : Int32} {x2 : Int32} {x3 : Int32} {x4 : Int32} {x5 : Int32} {x6 : Int32} (h : Px (k + 1) 176 m_Bu_bundleGroup 18 [.ref 95, .int x1, .int x2, .int x3, .int x4, .int (x5 + (I 95 6)), .int x6] [] (hp I J (pm_RT pa pb ga)) Q) : Px (k + 1) 176 m_Bu_bundleGroup 60 [.ref 95, .int x1, .int x2, .int x3, .int x4, .int x5, .int x6] [] (hp I J (pm_RT pa pb ga)) Q := by
  refine x_l 62 rfl rfl rfl ?_
  refine x_l 63 rfl rfl rfl ?_
  refine z_gf 66 (.int (I 95 6)) rfl ⟨rfl, rfl, rfl⟩ rfl rfl ?_
  refine x_s 67 rfl rfl rfl ?_
  refine x_t 69 rfl rfl rfl ?_
  refine x_g rfl ?_
  exact h

theorem bk_Bu_bundleGroup_72 {k : Nat} {pa pb : Nat} {ga : Nat → Nat} {I : pm_II} {J : pm_JJ} {Q : Option Value → pm_H → Prop} {x1 : Int32} {x2 : Int32} {x3 : Int32} {x4 : Int32} {x5 : Int32} (h : Q none (hp I J (pm_RT pa pb ga))) : Px (k + 1) 176 m_Bu_bundleGroup 72 [.ref 95, .int x1, .int x2, .int x3, .int x4, .int x5, .null] [] (hp I J (pm_RT pa pb ga)) Q := by
  exact x_rv rfl rfl h

theorem bk_Bu_makeBundle_0 {k : Nat} {pa pb : Nat} {ga : Nat → Nat} {I : pm_II} {J : pm_JJ} {Q : Option Value → pm_H → Prop} {x1 : Int32} {x2 : Int32} {x3 : Int32} (h : (((I 95 7) < 120 → vp_in (I 95 7) 120 ∧ vp_in (I 95 7) 120 ∧ vp_in x1 120 ∧ vp_in (I 95 7) 120 ∧ Px k 176 m_Bu_makeBundle 48 [.ref 95, .int x1, .int x2, .int x3, .int x1] [] (hp (pm_up (pm_up (pm_up I 98 (((I 95 7) : Int32).toNatClampNeg) x3) 99 (((I 95 7) : Int32).toNatClampNeg) x2) 100 (((I 95 7) : Int32).toNatClampNeg) (I 97 ((x1 : Int32).toNatClampNeg))) J (pm_RT pa pb ga)) Q) ∧ (¬ ((I 95 7) < 120) → Q none (hp I J (pm_RT pa pb ga))))) : Px k 176 m_Bu_makeBundle 0 [.ref 95, .int x1, .int x2, .int x3, .null] [] (hp I J (pm_RT pa pb ga)) Q := by
  refine x_l 1 rfl rfl rfl ?_
  refine z_gf 4 (.int (I 95 7)) rfl ⟨rfl, rfl, rfl⟩ rfl rfl ?_
  refine z_k 6 120 rfl (by decide) rfl ?_
  refine x_b 9 rfl rfl rfl (fun c => ?_) (fun c => ?_)
  · have h := h.1 c
    refine x_l 11 rfl rfl rfl ?_
    refine z_gf 14 (.ref 98) rfl ⟨rfl, rfl, rfl⟩ rfl rfl ?_
    refine x_l 15 rfl rfl rfl ?_
    refine z_gf 18 (.int (I 95 7)) rfl ⟨rfl, rfl, rfl⟩ rfl rfl ?_
    refine x_l 19 rfl rfl rfl ?_
    have h1 := h.1
    have h := h.2
    refine z_is 20 120 rfl ⟨rfl, rfl, rfl⟩ rfl h1 rfl ?_
    refine x_l 21 rfl rfl rfl ?_
    refine z_gf 24 (.ref 99) rfl ⟨rfl, rfl, rfl⟩ rfl rfl ?_
    refine x_l 25 rfl rfl rfl ?_
    refine z_gf 28 (.int (I 95 7)) rfl ⟨rfl, rfl, rfl⟩ rfl rfl ?_
    refine x_l 29 rfl rfl rfl ?_
    have h1 := h.1
    have h := h.2
    refine z_is 30 120 rfl ⟨rfl, rfl, rfl⟩ rfl h1 rfl ?_
    refine x_l 31 rfl rfl rfl ?_
    refine z_gf 34 (.ref 100) rfl ⟨rfl, rfl, rfl⟩ rfl rfl ?_
    refine x_l 35 rfl rfl rfl ?_
    refine z_gf 38 (.int (I 95 7)) rfl ⟨rfl, rfl, rfl⟩ rfl rfl ?_
    refine x_l 39 rfl rfl rfl ?_
    refine z_gf 42 (.ref 97) rfl ⟨rfl, rfl, rfl⟩ rfl rfl ?_
    refine x_l 43 rfl rfl rfl ?_
    have h1 := h.1
    have h := h.2
    refine z_il 44 120 rfl ⟨rfl, rfl, rfl⟩ rfl h1 rfl ?_
    have h1 := h.1
    have h := h.2
    refine z_is 45 120 rfl ⟨rfl, rfl, rfl⟩ rfl h1 rfl ?_
    refine x_l 46 rfl rfl rfl ?_
    refine x_t 48 rfl rfl rfl ?_
    exact h
  · have h := h.2 c
    exact x_rv rfl rfl h

theorem bk_Bu_makeBundle_48 {k : Nat} {pa pb : Nat} {ga : Nat → Nat} {I : pm_II} {J : pm_JJ} {Q : Option Value → pm_H → Prop} {x1 : Int32} {x2 : Int32} {x3 : Int32} {x4 : Int32} (h : (((x1 + x2) ≤ x4 → Px k 176 m_Bu_makeBundle 85 [.ref 95, .int x1, .int x2, .int x3, .int x4] [] (hp I J (pm_RT pa pb ga)) Q) ∧ (¬ ((x1 + x2) ≤ x4) → ((120 ≤ x4 → Px k 176 m_Bu_makeBundle 85 [.ref 95, .int x1, .int x2, .int x3, .int x4] [] (hp I J (pm_RT pa pb ga)) Q) ∧ (¬ (120 ≤ x4) → vp_in x4 120 ∧ vp_in (I 97 ((x4 : Int32).toNatClampNeg)) 120 ∧ Px k 176 m_Bu_makeBundle 48 [.ref 95, .int x1, .int x2, .int x3, .int (x4 + Int32.ofInt 1)] [] (hp (pm_up I 96 (((I 97 ((x4 : Int32).toNatClampNeg)) : Int32).toNatClampNeg) (I 95 7)) J (pm_RT pa pb ga)) Q))))) : Px k 176 m_Bu_makeBundle 48 [.ref 95, .int x1, .int x2, .int x3, .int x4] [] (hp I J (pm_RT pa pb ga)) Q := by
  refine x_l 50 rfl rfl rfl ?_
  refine x_l 51 rfl rfl rfl ?_
  refine x_l 52 rfl rfl rfl ?_
  refine x_s 53 rfl rfl rfl ?_
  refine x_b 56 rfl rfl rfl (fun c => ?_) (fun c => ?_)
  · have h := h.1 c
    exact h
  · have h := h.2 c
    refine x_l 58 rfl rfl rfl ?_
    refine z_k 60 120 rfl (by decide) rfl ?_
    refine x_b 63 rfl rfl rfl (fun c => ?_) (fun c => ?_)
    · have h := h.1 c
      exact h
    · have h := h.2 c
      refine x_l 64 rfl rfl rfl ?_
      refine z_gf 67 (.ref 96) rfl ⟨rfl, rfl, rfl⟩ rfl rfl ?_
      refine x_l 68 rfl rfl rfl ?_
      refine z_gf 71 (.ref 97) rfl ⟨rfl, rfl, rfl⟩ rfl rfl ?_
      refine x_l 73 rfl rfl rfl ?_
      have h1 := h.1
      have h := h.2
      refine z_il 74 120 rfl ⟨rfl, rfl, rfl⟩ rfl h1 rfl ?_
      refine x_l 75 rfl rfl rfl ?_
      refine z_gf 78 (.int (I 95 7)) rfl ⟨rfl, rfl, rfl⟩ rfl rfl ?_
      have h1 := h.1
      have h := h.2
      refine z_is 79 120 rfl ⟨rfl, rfl, rfl⟩ rfl h1 rfl ?_
      refine x_t 82 rfl rfl rfl ?_
      refine x_g rfl ?_
      exact h

theorem bk_Bu_makeBundle_85 {k : Nat} {pa pb : Nat} {ga : Nat → Nat} {I : pm_II} {J : pm_JJ} {Q : Option Value → pm_H → Prop} {x1 : Int32} {x2 : Int32} {x3 : Int32} {x4 : Int32} (h : Q none (hp (pm_up I 95 7 ((I 95 7) + (1 : Int32))) J (pm_RT pa pb ga))) : Px k 176 m_Bu_makeBundle 85 [.ref 95, .int x1, .int x2, .int x3, .int x4] [] (hp I J (pm_RT pa pb ga)) Q := by
  refine x_l 86 rfl rfl rfl ?_
  refine x_s 87 rfl rfl rfl ?_
  refine z_gf 90 (.int (I 95 7)) rfl ⟨rfl, rfl, rfl⟩ rfl rfl ?_
  refine z_k 91 1 rfl (by decide) rfl ?_
  refine x_s 92 rfl rfl rfl ?_
  refine z_pi 95 rfl (Or.inl rfl) rfl (fun z => by cases z) ⟨rfl, rfl, rfl⟩ rfl ?_
  exact x_rv rfl rfl h

theorem bk_Bu_bundleOf_0 {k : Nat} {pa pb : Nat} {ga : Nat → Nat} {I : pm_II} {J : pm_JJ} {Q : Option Value → pm_H → Prop} {x2 : Int32} (h : Px k 176 m_Bu_refresh 0 [.ref 95, .ref 89, .null] [] (hp I J (pm_RT pa pb ga)) (fun r h' => h'.1 = 176 ∧ Px (k + 1) 176 m_Bu_bundleOf 5 [.ref 95, .ref 89, .int x2] (r.toList ++ []) h' Q)) : Px (k + 1) 176 m_Bu_bundleOf 0 [.ref 95, .ref 89, .int x2] [] (hp I J (pm_RT pa pb ga)) Q := by
  refine x_l 1 rfl rfl rfl ?_
  refine x_l 2 rfl rfl rfl ?_
  exact z_cv (As := [.ref 89]) (rest := []) (b := 95) rfl at_Bu_refresh rfl rfl (Nat.le_of_ble_eq_true rfl) (Nat.le_of_ble_eq_true rfl) ⟨rfl, rfl, rfl⟩ (by decide) rfl h

theorem bk_Bu_bundleOf_5 {k : Nat} {pa pb : Nat} {ga : Nat → Nat} {I : pm_II} {J : pm_JJ} {Q : Option Value → pm_H → Prop} {x2 : Int32} (h : Px k 176 m_Ma_has 0 [.ref 89, .int x2] [] (hp I J (pm_RT pa pb ga)) (fun r h' => h'.1 = 176 ∧ Px (k + 1) 176 m_Bu_bundleOf 10 [.ref 95, .ref 89, .int x2] (r.toList ++ []) h' Q)) : Px (k + 1) 176 m_Bu_bundleOf 5 [.ref 95, .ref 89, .int x2] [] (hp I J (pm_RT pa pb ga)) Q := by
  refine x_l 6 rfl rfl rfl ?_
  refine x_l 7 rfl rfl rfl ?_
  exact z_cv (As := [.int x2]) (rest := []) (b := 89) rfl at_Ma_has rfl rfl (Nat.le_of_ble_eq_true rfl) (Nat.le_of_ble_eq_true rfl) ⟨rfl, rfl, rfl⟩ (by decide) rfl h

theorem bk_Bu_bundleOf_10 {k : Nat} {pa pb : Nat} {ga : Nat → Nat} {I : pm_II} {J : pm_JJ} {Q : Option Value → pm_H → Prop} {x2 : Int32} {s0 : Int32} (h : ((s0 = 0 → Q (some (.int (-1))) (hp I J (pm_RT pa pb ga))) ∧ (¬ (s0 = 0) → vp_in x2 120 ∧ Q (some (.int (I 96 ((x2 : Int32).toNatClampNeg)))) (hp I J (pm_RT pa pb ga))))) : Px (k + 1) 176 m_Bu_bundleOf 10 [.ref 95, .ref 89, .int x2] [.int s0] (hp I J (pm_RT pa pb ga)) Q := by
  refine x_b 13 rfl rfl rfl (fun c => ?_) (fun c => ?_)
  · have h := h.1 c
    refine z_k 23 (-1) rfl (by decide) rfl ?_
    exact x_ri rfl (Or.inl rfl) h
  · have h := h.2 c
    refine x_l 14 rfl rfl rfl ?_
    refine z_gf 17 (.ref 96) rfl ⟨rfl, rfl, rfl⟩ rfl rfl ?_
    refine x_l 18 rfl rfl rfl ?_
    have h1 := h.1
    have h := h.2
    refine z_il 19 120 rfl ⟨rfl, rfl, rfl⟩ rfl h1 rfl ?_
    refine x_g rfl ?_
    exact x_ri rfl (Or.inl rfl) h

theorem bk_Ma_tell_0 {k : Nat} {pa pb : Nat} {ga : Nat → Nat} {I : pm_II} {J : pm_JJ} {Q : Option Value → pm_H → Prop} {x1 : Int32} {x2 : Int32} (h : Px k 176 m_Ma_has 0 [.ref 89, .int x1] [] (hp I J (pm_RT pa pb ga)) (fun r h' => h'.1 = 176 ∧ Px (k + 1) 176 m_Ma_tell 5 [.ref 89, .int x1, .int x2] (r.toList ++ []) h' Q)) : Px (k + 1) 176 m_Ma_tell 0 [.ref 89, .int x1, .int x2] [] (hp I J (pm_RT pa pb ga)) Q := by
  refine x_l 1 rfl rfl rfl ?_
  refine x_l 2 rfl rfl rfl ?_
  exact z_cv (As := [.int x1]) (rest := []) (b := 89) rfl at_Ma_has rfl rfl (Nat.le_of_ble_eq_true rfl) (Nat.le_of_ble_eq_true rfl) ⟨rfl, rfl, rfl⟩ (by decide) rfl h

theorem bk_Ma_tell_5 {k : Nat} {pa pb : Nat} {ga : Nat → Nat} {I : pm_II} {J : pm_JJ} {Q : Option Value → pm_H → Prop} {x1 : Int32} {x2 : Int32} {s0 : Int32} (h : ((¬ s0 = 0 → ((x2 = nI 0 → vp_in x1 120 ∧ Q (some (.int (I 90 ((x1 : Int32).toNatClampNeg)))) (hp I J (pm_RT pa pb ga))) ∧ (x2 = nI 1 → Px k 176 m_Ma_lengthOf 0 [.ref 89, .int x1, .null] [] (hp I J (pm_RT pa pb ga)) (fun r h' => h'.1 = 176 ∧ Px (k + 1) 176 m_Ma_tell 52 [.ref 89, .int x1, .int x2] (r.toList ++ []) h' Q)) ∧ (x2 = nI 2 → ((x2 < 10 → Px (k + 1) 176 m_Ma_tell 90 [.ref 89, .int x1, .int x2] [.int (-1)] (hp I J (pm_RT pa pb ga)) Q) ∧ (¬ (x2 < 10) → Px k 176 m_Ma_lengthOf 0 [.ref 89, .int x1, .null] [] (hp I J (pm_RT pa pb ga)) (fun r h' => h'.1 = 176 ∧ Px (k + 1) 176 m_Ma_tell 74 [.ref 89, .int x1, .int x2] (r.toList ++ [.int (x2 - (10 : Int32))]) h' Q)))) ∧ (x2 = nI 3 → Px k 176 m_Ma_cameAheadOf 0 [.ref 89, .int x1, .null, .null] [] (hp I J (pm_RT pa pb ga)) (fun r h' => h'.1 = 176 ∧ Px (k + 1) 176 m_Ma_tell 58 [.ref 89, .int x1, .int x2] (r.toList ++ []) h' Q)) ∧ ((x2 < 0 ∨ nI 3 < x2) → ((x2 < 10 → Px (k + 1) 176 m_Ma_tell 90 [.ref 89, .int x1, .int x2] [.int (-1)] (hp I J (pm_RT pa pb ga)) Q) ∧ (¬ (x2 < 10) → Px k 176 m_Ma_lengthOf 0 [.ref 89, .int x1, .null] [] (hp I J (pm_RT pa pb ga)) (fun r h' => h'.1 = 176 ∧ Px (k + 1) 176 m_Ma_tell 74 [.ref 89, .int x1, .int x2] (r.toList ++ [.int (x2 - (10 : Int32))]) h' Q)))))) ∧ (¬ (¬ s0 = 0) → Q (some (.int (-1))) (hp I J (pm_RT pa pb ga))))) : Px (k + 1) 176 m_Ma_tell 5 [.ref 89, .int x1, .int x2] [.int s0] (hp I J (pm_RT pa pb ga)) Q := by
  refine x_b 8 rfl rfl rfl (fun c => ?_) (fun c => ?_)
  · have h := h.1 c
    refine x_l 11 rfl rfl rfl ?_
    refine z_sw 3 (dt := 59) rfl rfl (by decide) (fun i hi e => ?_) (fun c => ?_)
    · match i, hi with
      | 0, _ =>
        refine ⟨_, 40, rfl, rfl, ?_⟩
        have h := h.1 e
        refine x_l 41 rfl rfl rfl ?_
        refine z_gf 44 (.ref 90) rfl ⟨rfl, rfl, rfl⟩ rfl rfl ?_
        refine x_l 45 rfl rfl rfl ?_
        have h1 := h.1
        have h := h.2
        refine z_il 46 120 rfl ⟨rfl, rfl, rfl⟩ rfl h1 rfl ?_
        exact x_ri rfl (Or.inl rfl) h
      | 1, _ =>
        refine ⟨_, 47, rfl, rfl, ?_⟩
        have h := h.2.1 e
        refine x_l 48 rfl rfl rfl ?_
        refine x_l 49 rfl rfl rfl ?_
        exact z_cv (As := [.int x1]) (rest := []) (b := 89) rfl at_Ma_lengthOf rfl rfl (Nat.le_of_ble_eq_true rfl) (Nat.le_of_ble_eq_true rfl) ⟨rfl, rfl, rfl⟩ (by decide) rfl h
      | 2, _ =>
        refine ⟨_, 59, rfl, rfl, ?_⟩
        have h := h.2.2.1 e
        refine x_l 60 rfl rfl rfl ?_
        refine z_k 62 10 rfl (by decide) rfl ?_
        refine x_b 65 rfl rfl rfl (fun c => ?_) (fun c => ?_)
        · have h := h.1 c
          refine z_k 78 (-1) rfl (by decide) rfl ?_
          refine x_g rfl ?_
          exact h
        · have h := h.2 c
          refine x_l 66 rfl rfl rfl ?_
          refine z_k 68 10 rfl (by decide) rfl ?_
          refine x_s 69 rfl rfl rfl ?_
          refine x_l 70 rfl rfl rfl ?_
          refine x_l 71 rfl rfl rfl ?_
          exact z_cv (As := [.int x1]) (rest := [.int (x2 - (10 : Int32))]) (b := 89) rfl at_Ma_lengthOf rfl rfl (Nat.le_of_ble_eq_true rfl) (Nat.le_of_ble_eq_true rfl) ⟨rfl, rfl, rfl⟩ (by decide) rfl h
      | 3, _ =>
        refine ⟨_, 53, rfl, rfl, ?_⟩
        have h := h.2.2.2.1 e
        refine x_l 54 rfl rfl rfl ?_
        refine x_l 55 rfl rfl rfl ?_
        exact z_cv (As := [.int x1]) (rest := []) (b := 89) rfl at_Ma_cameAheadOf rfl rfl (Nat.le_of_ble_eq_true rfl) (Nat.le_of_ble_eq_true rfl) ⟨rfl, rfl, rfl⟩ (by decide) rfl h
      | n + 4, hi => exact absurd hi (by omega)
    · have h := h.2.2.2.2 c
      refine x_l 60 rfl rfl rfl ?_
      refine z_k 62 10 rfl (by decide) rfl ?_
      refine x_b 65 rfl rfl rfl (fun c => ?_) (fun c => ?_)
      · have h := h.1 c
        refine z_k 78 (-1) rfl (by decide) rfl ?_
        refine x_g rfl ?_
        exact h
      · have h := h.2 c
        refine x_l 66 rfl rfl rfl ?_
        refine z_k 68 10 rfl (by decide) rfl ?_
        refine x_s 69 rfl rfl rfl ?_
        refine x_l 70 rfl rfl rfl ?_
        refine x_l 71 rfl rfl rfl ?_
        exact z_cv (As := [.int x1]) (rest := [.int (x2 - (10 : Int32))]) (b := 89) rfl at_Ma_lengthOf rfl rfl (Nat.le_of_ble_eq_true rfl) (Nat.le_of_ble_eq_true rfl) ⟨rfl, rfl, rfl⟩ (by decide) rfl h
  · have h := h.2 c
    refine z_k 9 (-1) rfl (by decide) rfl ?_
    exact x_ri rfl (Or.inl rfl) h

theorem bk_Ma_tell_52 {k : Nat} {pa pb : Nat} {ga : Nat → Nat} {I : pm_II} {J : pm_JJ} {Q : Option Value → pm_H → Prop} {x1 : Int32} {x2 : Int32} {s0 : Int32} (h : Q (some (.int s0)) (hp I J (pm_RT pa pb ga))) : Px (k + 1) 176 m_Ma_tell 52 [.ref 89, .int x1, .int x2] [.int s0] (hp I J (pm_RT pa pb ga)) Q := by
  exact x_ri rfl (Or.inl rfl) h

theorem bk_Ma_tell_58 {k : Nat} {pa pb : Nat} {ga : Nat → Nat} {I : pm_II} {J : pm_JJ} {Q : Option Value → pm_H → Prop} {x1 : Int32} {x2 : Int32} {s0 : Int32} (h : Q (some (.int s0)) (hp I J (pm_RT pa pb ga))) : Px (k + 1) 176 m_Ma_tell 58 [.ref 89, .int x1, .int x2] [.int s0] (hp I J (pm_RT pa pb ga)) Q := by
  exact x_ri rfl (Or.inl rfl) h

theorem bk_Ma_tell_74 {k : Nat} {pa pb : Nat} {ga : Nat → Nat} {I : pm_II} {J : pm_JJ} {Q : Option Value → pm_H → Prop} {x1 : Int32} {x2 : Int32} {s0 : Int32} {s1 : Int32} (h : ((s0 < s1 → Px k 176 m_Ma_byteOf 0 [.ref 89, .int x1, .int (x2 - (10 : Int32))] [] (hp I J (pm_RT pa pb ga)) (fun r h' => h'.1 = 176 ∧ Px (k + 1) 176 m_Ma_tell 90 [.ref 89, .int x1, .int x2] (r.toList ++ []) h' Q)) ∧ (¬ (s0 < s1) → Px (k + 1) 176 m_Ma_tell 90 [.ref 89, .int x1, .int x2] [.int (-1)] (hp I J (pm_RT pa pb ga)) Q))) : Px (k + 1) 176 m_Ma_tell 74 [.ref 89, .int x1, .int x2] [.int s1, .int s0] (hp I J (pm_RT pa pb ga)) Q := by
  refine x_b 77 rfl rfl rfl (fun c => ?_) (fun c => ?_)
  · have h := h.1 c
    refine x_l 82 rfl rfl rfl ?_
    refine x_l 83 rfl rfl rfl ?_
    refine x_l 84 rfl rfl rfl ?_
    refine z_k 86 10 rfl (by decide) rfl ?_
    refine x_s 87 rfl rfl rfl ?_
    exact z_cv (As := [.int x1, .int (x2 - (10 : Int32))]) (rest := []) (b := 89) rfl at_Ma_byteOf rfl rfl (Nat.le_of_ble_eq_true rfl) (Nat.le_of_ble_eq_true rfl) ⟨rfl, rfl, rfl⟩ (by decide) rfl h
  · have h := h.2 c
    refine z_k 78 (-1) rfl (by decide) rfl ?_
    refine x_g rfl ?_
    exact h

theorem bk_Ma_tell_90 {k : Nat} {pa pb : Nat} {ga : Nat → Nat} {I : pm_II} {J : pm_JJ} {Q : Option Value → pm_H → Prop} {x1 : Int32} {x2 : Int32} {s0 : Int32} (h : Q (some (.int s0)) (hp I J (pm_RT pa pb ga))) : Px (k + 1) 176 m_Ma_tell 90 [.ref 89, .int x1, .int x2] [.int s0] (hp I J (pm_RT pa pb ga)) Q := by
  exact x_ri rfl (Or.inl rfl) h

theorem bk_Ma_lengthOf_0 {k : Nat} {pa pb : Nat} {ga : Nat → Nat} {I : pm_II} {J : pm_JJ} {Q : Option Value → pm_H → Prop} {x1 : Int32} (h : Px (k + 1) 176 m_Ma_lengthOf 2 [.ref 89, .int x1, .int 0] [] (hp I J (pm_RT pa pb ga)) Q) : Px (k + 1) 176 m_Ma_lengthOf 0 [.ref 89, .int x1, .null] [] (hp I J (pm_RT pa pb ga)) Q := by
  refine z_k 1 0 rfl (by decide) rfl ?_
  refine x_t 2 rfl rfl rfl ?_
  exact h

theorem bk_Ma_lengthOf_2 {k : Nat} {pa pb : Nat} {ga : Nat → Nat} {I : pm_II} {J : pm_JJ} {Q : Option Value → pm_H → Prop} {x1 : Int32} {x2 : Int32} (h : ((8 ≤ x2 → Px (k + 1) 176 m_Ma_lengthOf 23 [.ref 89, .int x1, .int x2] [] (hp I J (pm_RT pa pb ga)) Q) ∧ (¬ (8 ≤ x2) → Px k 176 m_Ma_byteOf 0 [.ref 89, .int x1, .int x2] [] (hp I J (pm_RT pa pb ga)) (fun r h' => h'.1 = 176 ∧ Px (k + 1) 176 m_Ma_lengthOf 14 [.ref 89, .int x1, .int x2] (r.toList ++ []) h' Q)))) : Px (k + 1) 176 m_Ma_lengthOf 2 [.ref 89, .int x1, .int x2] [] (hp I J (pm_RT pa pb ga)) Q := by
  refine x_l 3 rfl rfl rfl ?_
  refine z_k 5 8 rfl (by decide) rfl ?_
  refine x_b 8 rfl rfl rfl (fun c => ?_) (fun c => ?_)
  · have h := h.1 c
    exact h
  · have h := h.2 c
    refine x_l 9 rfl rfl rfl ?_
    refine x_l 10 rfl rfl rfl ?_
    refine x_l 11 rfl rfl rfl ?_
    exact z_cv (As := [.int x1, .int x2]) (rest := []) (b := 89) rfl at_Ma_byteOf rfl rfl (Nat.le_of_ble_eq_true rfl) (Nat.le_of_ble_eq_true rfl) ⟨rfl, rfl, rfl⟩ (by decide) rfl h

theorem bk_Ma_lengthOf_14 {k : Nat} {pa pb : Nat} {ga : Nat → Nat} {I : pm_II} {J : pm_JJ} {Q : Option Value → pm_H → Prop} {x1 : Int32} {x2 : Int32} {s0 : Int32} (h : ((s0 = 0 → Px (k + 1) 176 m_Ma_lengthOf 23 [.ref 89, .int x1, .int x2] [] (hp I J (pm_RT pa pb ga)) Q) ∧ (¬ (s0 = 0) → Px (k + 1) 176 m_Ma_lengthOf 2 [.ref 89, .int x1, .int (x2 + Int32.ofInt 1)] [] (hp I J (pm_RT pa pb ga)) Q))) : Px (k + 1) 176 m_Ma_lengthOf 14 [.ref 89, .int x1, .int x2] [.int s0] (hp I J (pm_RT pa pb ga)) Q := by
  refine x_b 17 rfl rfl rfl (fun c => ?_) (fun c => ?_)
  · have h := h.1 c
    exact h
  · have h := h.2 c
    refine x_t 20 rfl rfl rfl ?_
    refine x_g rfl ?_
    exact h

theorem bk_Ma_lengthOf_23 {k : Nat} {pa pb : Nat} {ga : Nat → Nat} {I : pm_II} {J : pm_JJ} {Q : Option Value → pm_H → Prop} {x1 : Int32} {x2 : Int32} (h : Q (some (.int x2)) (hp I J (pm_RT pa pb ga))) : Px (k + 1) 176 m_Ma_lengthOf 23 [.ref 89, .int x1, .int x2] [] (hp I J (pm_RT pa pb ga)) Q := by
  refine x_l 24 rfl rfl rfl ?_
  exact x_ri rfl (Or.inl rfl) h

theorem bk_Ma_byteOf_0 {k : Nat} {pa pb : Nat} {ga : Nat → Nat} {I : pm_II} {J : pm_JJ} {Q : Option Value → pm_H → Prop} {x1 : Int32} {x2 : Int32} (h : vp_in x1 120 ∧ Q (some (.int (((((J 91 ((x1 : Int32).toNatClampNeg))).toUInt64 >>> ((((8 : Int32) * ((7 : Int32) - x2)) : Int32).toInt64.toUInt64 &&& Int64.toUInt64 63)).toInt64 : Int64).toInt32 &&& (255 : Int32)))) (hp I J (pm_RT pa pb ga))) : Px k 176 m_Ma_byteOf 0 [.ref 89, .int x1, .int x2] [] (hp I J (pm_RT pa pb ga)) Q := by
  refine x_l 1 rfl rfl rfl ?_
  refine z_gf 4 (.ref 91) rfl ⟨rfl, rfl, rfl⟩ rfl rfl ?_
  refine x_l 5 rfl rfl rfl ?_
  have h1 := h.1
  have h := h.2
  refine z_jl 6 120 rfl ⟨rfl, rfl, rfl⟩ rfl h1 rfl ?_
  refine z_k 8 8 rfl (by decide) rfl ?_
  refine z_k 10 7 rfl (by decide) rfl ?_
  refine x_l 11 rfl rfl rfl ?_
  refine x_s 12 rfl rfl rfl ?_
  refine x_s 13 rfl rfl rfl ?_
  refine x_s 14 rfl rfl rfl ?_
  refine x_s 15 rfl rfl rfl ?_
  refine z_k 18 255 rfl (by decide) rfl ?_
  refine x_s 19 rfl rfl rfl ?_
  exact x_ri rfl (Or.inl rfl) h

theorem bk_Ma_cameAheadOf_0 {k : Nat} {pa pb : Nat} {ga : Nat → Nat} {I : pm_II} {J : pm_JJ} {Q : Option Value → pm_H → Prop} {x1 : Int32} (h : Px k 176 m_Ma_cameAheadOf 4 [.ref 89, .int x1, .int 0, .int 0] [] (hp I J (pm_RT pa pb ga)) Q) : Px k 176 m_Ma_cameAheadOf 0 [.ref 89, .int x1, .null, .null] [] (hp I J (pm_RT pa pb ga)) Q := by
  refine z_k 1 0 rfl (by decide) rfl ?_
  refine x_t 2 rfl rfl rfl ?_
  refine z_k 3 0 rfl (by decide) rfl ?_
  refine x_t 4 rfl rfl rfl ?_
  exact h

theorem bk_Ma_cameAheadOf_4 {k : Nat} {pa pb : Nat} {ga : Nat → Nat} {I : pm_II} {J : pm_JJ} {Q : Option Value → pm_H → Prop} {x1 : Int32} {x2 : Int32} {x3 : Int32} (h : (((I 89 6) ≤ x3 → Q (some (.int x2)) (hp I J (pm_RT pa pb ga))) ∧ (¬ ((I 89 6) ≤ x3) → vp_in x3 120 ∧ vp_in x1 120 ∧ (((I 92 ((x1 : Int32).toNatClampNeg)) ≤ (I 92 ((x3 : Int32).toNatClampNeg)) → Px k 176 m_Ma_cameAheadOf 4 [.ref 89, .int x1, .int x2, .int (x3 + Int32.ofInt 1)] [] (hp I J (pm_RT pa pb ga)) Q) ∧ (¬ ((I 92 ((x1 : Int32).toNatClampNeg)) ≤ (I 92 ((x3 : Int32).toNatClampNeg))) → Px k 176 m_Ma_cameAheadOf 4 [.ref 89, .int x1, .int (x2 + Int32.ofInt 1), .int (x3 + Int32.ofInt 1)] [] (hp I J (pm_RT pa pb ga)) Q))))) : Px k 176 m_Ma_cameAheadOf 4 [.ref 89, .int x1, .int x2, .int x3] [] (hp I J (pm_RT pa pb ga)) Q := by
  refine x_l 5 rfl rfl rfl ?_
  refine x_l 6 rfl rfl rfl ?_
  refine z_gf 9 (.int (I 89 6)) rfl ⟨rfl, rfl, rfl⟩ rfl rfl ?_
  refine x_b 12 rfl rfl rfl (fun c => ?_) (fun c => ?_)
  · have h := h.1 c
    refine x_l 37 rfl rfl rfl ?_
    exact x_ri rfl (Or.inl rfl) h
  · have h := h.2 c
    refine x_l 13 rfl rfl rfl ?_
    refine z_gf 16 (.ref 92) rfl ⟨rfl, rfl, rfl⟩ rfl rfl ?_
    refine x_l 17 rfl rfl rfl ?_
    have h1 := h.1
    have h := h.2
    refine z_il 18 120 rfl ⟨rfl, rfl, rfl⟩ rfl h1 rfl ?_
    refine x_l 19 rfl rfl rfl ?_
    refine z_gf 22 (.ref 92) rfl ⟨rfl, rfl, rfl⟩ rfl rfl ?_
    refine x_l 23 rfl rfl rfl ?_
    have h1 := h.1
    have h := h.2
    refine z_il 24 120 rfl ⟨rfl, rfl, rfl⟩ rfl h1 rfl ?_
    refine x_b 27 rfl rfl rfl (fun c => ?_) (fun c => ?_)
    · have h := h.1 c
      refine x_t 33 rfl rfl rfl ?_
      refine x_g rfl ?_
      exact h
    · have h := h.2 c
      refine x_t 30 rfl rfl rfl ?_
      refine x_t 33 rfl rfl rfl ?_
      refine x_g rfl ?_
      exact h

theorem bk_Bu_tell_0 {k : Nat} {pa pb : Nat} {ga : Nat → Nat} {I : pm_II} {J : pm_JJ} {Q : Option Value → pm_H → Prop} {x2 : Int32} {x3 : Int32} (h : Px k 176 m_Bu_refresh 0 [.ref 95, .ref 89, .null] [] (hp I J (pm_RT pa pb ga)) (fun r h' => h'.1 = 176 ∧ Px (k + 1) 176 m_Bu_tell 5 [.ref 95, .ref 89, .int x2, .int x3] (r.toList ++ []) h' Q)) : Px (k + 1) 176 m_Bu_tell 0 [.ref 95, .ref 89, .int x2, .int x3] [] (hp I J (pm_RT pa pb ga)) Q := by
  refine x_l 1 rfl rfl rfl ?_
  refine x_l 2 rfl rfl rfl ?_
  exact z_cv (As := [.ref 89]) (rest := []) (b := 95) rfl at_Bu_refresh rfl rfl (Nat.le_of_ble_eq_true rfl) (Nat.le_of_ble_eq_true rfl) ⟨rfl, rfl, rfl⟩ (by decide) rfl h

theorem bk_Bu_tell_5 {k : Nat} {pa pb : Nat} {ga : Nat → Nat} {I : pm_II} {J : pm_JJ} {Q : Option Value → pm_H → Prop} {x2 : Int32} {x3 : Int32} (h : ((x2 < 0 → Q (some (.int (-1))) (hp I J (pm_RT pa pb ga))) ∧ (¬ (x2 < 0) → (((I 95 7) ≤ x2 → Q (some (.int (-1))) (hp I J (pm_RT pa pb ga))) ∧ (¬ ((I 95 7) ≤ x2) → ((x2 < 120 → ((x3 = nI 0 → vp_in x2 120 ∧ Q (some (.int (I 98 ((x2 : Int32).toNatClampNeg)))) (hp I J (pm_RT pa pb ga))) ∧ (x3 = nI 1 → vp_in x2 120 ∧ Q (some (.int (I 99 ((x2 : Int32).toNatClampNeg)))) (hp I J (pm_RT pa pb ga))) ∧ (x3 = nI 2 → vp_in x2 120 ∧ Q (some (.int (I 100 ((x2 : Int32).toNatClampNeg)))) (hp I J (pm_RT pa pb ga))) ∧ ((x3 < 0 ∨ nI 2 < x3) → Q (some (.int (-1))) (hp I J (pm_RT pa pb ga))))) ∧ (¬ (x2 < 120) → Q (some (.int (-1))) (hp I J (pm_RT pa pb ga))))))))) : Px (k + 1) 176 m_Bu_tell 5 [.ref 95, .ref 89, .int x2, .int x3] [] (hp I J (pm_RT pa pb ga)) Q := by
  refine x_l 6 rfl rfl rfl ?_
  refine x_b 9 rfl rfl rfl (fun c => ?_) (fun c => ?_)
  · have h := h.1 c
    refine z_k 24 (-1) rfl (by decide) rfl ?_
    exact x_ri rfl (Or.inl rfl) h
  · have h := h.2 c
    refine x_l 10 rfl rfl rfl ?_
    refine x_l 11 rfl rfl rfl ?_
    refine z_gf 14 (.int (I 95 7)) rfl ⟨rfl, rfl, rfl⟩ rfl rfl ?_
    refine x_b 17 rfl rfl rfl (fun c => ?_) (fun c => ?_)
    · have h := h.1 c
      refine z_k 24 (-1) rfl (by decide) rfl ?_
      exact x_ri rfl (Or.inl rfl) h
    · have h := h.2 c
      refine x_l 18 rfl rfl rfl ?_
      refine z_k 20 120 rfl (by decide) rfl ?_
      refine x_b 23 rfl rfl rfl (fun c => ?_) (fun c => ?_)
      · have h := h.1 c
        refine x_l 26 rfl rfl rfl ?_
        refine z_sw 2 (dt := 73) rfl rfl (by decide) (fun i hi e => ?_) (fun c => ?_)
        · match i, hi with
          | 0, _ =>
            refine ⟨_, 52, rfl, rfl, ?_⟩
            have h := h.1 e
            refine x_l 53 rfl rfl rfl ?_
            refine z_gf 56 (.ref 98) rfl ⟨rfl, rfl, rfl⟩ rfl rfl ?_
            refine x_l 57 rfl rfl rfl ?_
            have h1 := h.1
            have h := h.2
            refine z_il 58 120 rfl ⟨rfl, rfl, rfl⟩ rfl h1 rfl ?_
            exact x_ri rfl (Or.inl rfl) h
          | 1, _ =>
            refine ⟨_, 59, rfl, rfl, ?_⟩
            have h := h.2.1 e
            refine x_l 60 rfl rfl rfl ?_
            refine z_gf 63 (.ref 99) rfl ⟨rfl, rfl, rfl⟩ rfl rfl ?_
            refine x_l 64 rfl rfl rfl ?_
            have h1 := h.1
            have h := h.2
            refine z_il 65 120 rfl ⟨rfl, rfl, rfl⟩ rfl h1 rfl ?_
            exact x_ri rfl (Or.inl rfl) h
          | 2, _ =>
            refine ⟨_, 66, rfl, rfl, ?_⟩
            have h := h.2.2.1 e
            refine x_l 67 rfl rfl rfl ?_
            refine z_gf 70 (.ref 100) rfl ⟨rfl, rfl, rfl⟩ rfl rfl ?_
            refine x_l 71 rfl rfl rfl ?_
            have h1 := h.1
            have h := h.2
            refine z_il 72 120 rfl ⟨rfl, rfl, rfl⟩ rfl h1 rfl ?_
            exact x_ri rfl (Or.inl rfl) h
          | n + 3, hi => exact absurd hi (by omega)
        · have h := h.2.2.2 c
          refine z_k 74 (-1) rfl (by decide) rfl ?_
          exact x_ri rfl (Or.inl rfl) h
      · have h := h.2 c
        refine z_k 24 (-1) rfl (by decide) rfl ?_
        exact x_ri rfl (Or.inl rfl) h

theorem bk_Ma_remove_0 {k : Nat} {pa pb : Nat} {ga : Nat → Nat} {I : pm_II} {J : pm_JJ} {Q : Option Value → pm_H → Prop} {x1 : Int32} (h : Px k 176 m_Ma_has 0 [.ref 89, .int x1] [] (hp I J (pm_RT pa pb ga)) (fun r h' => h'.1 = 176 ∧ Px (k + 1) 176 m_Ma_remove 5 [.ref 89, .int x1, .null] (r.toList ++ []) h' Q)) : Px (k + 1) 176 m_Ma_remove 0 [.ref 89, .int x1, .null] [] (hp I J (pm_RT pa pb ga)) Q := by
  refine x_l 1 rfl rfl rfl ?_
  refine x_l 2 rfl rfl rfl ?_
  exact z_cv (As := [.int x1]) (rest := []) (b := 89) rfl at_Ma_has rfl rfl (Nat.le_of_ble_eq_true rfl) (Nat.le_of_ble_eq_true rfl) ⟨rfl, rfl, rfl⟩ (by decide) rfl h

theorem bk_Ma_remove_5 {k : Nat} {pa pb : Nat} {ga : Nat → Nat} {I : pm_II} {J : pm_JJ} {Q : Option Value → pm_H → Prop} {x1 : Int32} {s0 : Int32} (h : ((¬ s0 = 0 → Px (k + 1) 176 m_Ma_remove 22 [.ref 89, .int x1, .int x1] [] (hp (pm_up I 89 6 ((I 89 6) - (1 : Int32))) J (pm_RT pa pb ga)) Q) ∧ (¬ (¬ s0 = 0) → Q (some (.int (-1))) (hp I J (pm_RT pa pb ga))))) : Px (k + 1) 176 m_Ma_remove 5 [.ref 89, .int x1, .null] [.int s0] (hp I J (pm_RT pa pb ga)) Q := by
  refine x_b 8 rfl rfl rfl (fun c => ?_) (fun c => ?_)
  · have h := h.1 c
    refine x_l 11 rfl rfl rfl ?_
    refine x_s 12 rfl rfl rfl ?_
    refine z_gf 15 (.int (I 89 6)) rfl ⟨rfl, rfl, rfl⟩ rfl rfl ?_
    refine z_k 16 1 rfl (by decide) rfl ?_
    refine x_s 17 rfl rfl rfl ?_
    refine z_pi 20 rfl (Or.inl rfl) rfl (fun z => by cases z) ⟨rfl, rfl, rfl⟩ rfl ?_
    refine x_l 21 rfl rfl rfl ?_
    refine x_t 22 rfl rfl rfl ?_
    exact h
  · have h := h.2 c
    refine z_k 9 (-1) rfl (by decide) rfl ?_
    exact x_ri rfl (Or.inl rfl) h

theorem bk_Ma_remove_22 {k : Nat} {pa pb : Nat} {ga : Nat → Nat} {I : pm_II} {J : pm_JJ} {Q : Option Value → pm_H → Prop} {x1 : Int32} {x2 : Int32} (h : (((I 89 6) ≤ x2 → Q (some (.int (I 89 6))) (hp I J (pm_RT pa pb ga))) ∧ (¬ ((I 89 6) ≤ x2) → vp_in (x2 + (1 : Int32)) 120 ∧ vp_in x2 120 ∧ vp_in (x2 + (1 : Int32)) 120 ∧ vp_in x2 120 ∧ vp_in (x2 + (1 : Int32)) 120 ∧ vp_in x2 120 ∧ Px (k + 1) 176 m_Ma_remove 22 [.ref 89, .int x1, .int (x2 + Int32.ofInt 1)] [] (hp (pm_up (pm_up I 90 ((x2 : Int32).toNatClampNeg) (I 90 (((x2 + (1 : Int32)) : Int32).toNatClampNeg))) 92 ((x2 : Int32).toNatClampNeg) (I 92 (((x2 + (1 : Int32)) : Int32).toNatClampNeg))) (pm_up J 91 ((x2 : Int32).toNatClampNeg) (J 91 (((x2 + (1 : Int32)) : Int32).toNatClampNeg))) (pm_RT pa pb ga)) Q))) : Px (k + 1) 176 m_Ma_remove 22 [.ref 89, .int x1, .int x2] [] (hp I J (pm_RT pa pb ga)) Q := by
  refine x_l 23 rfl rfl rfl ?_
  refine x_l 24 rfl rfl rfl ?_
  refine z_gf 27 (.int (I 89 6)) rfl ⟨rfl, rfl, rfl⟩ rfl rfl ?_
  refine x_b 30 rfl rfl rfl (fun c => ?_) (fun c => ?_)
  · have h := h.1 c
    refine x_l 79 rfl rfl rfl ?_
    refine z_gf 82 (.int (I 89 6)) rfl ⟨rfl, rfl, rfl⟩ rfl rfl ?_
    exact x_ri rfl (Or.inl rfl) h
  · have h := h.2 c
    refine x_l 31 rfl rfl rfl ?_
    refine z_gf 34 (.ref 90) rfl ⟨rfl, rfl, rfl⟩ rfl rfl ?_
    refine x_l 35 rfl rfl rfl ?_
    refine x_l 36 rfl rfl rfl ?_
    refine z_gf 39 (.ref 90) rfl ⟨rfl, rfl, rfl⟩ rfl rfl ?_
    refine x_l 40 rfl rfl rfl ?_
    refine z_k 41 1 rfl (by decide) rfl ?_
    refine x_s 42 rfl rfl rfl ?_
    have h1 := h.1
    have h := h.2
    refine z_il 43 120 rfl ⟨rfl, rfl, rfl⟩ rfl h1 rfl ?_
    have h1 := h.1
    have h := h.2
    refine z_is 44 120 rfl ⟨rfl, rfl, rfl⟩ rfl h1 rfl ?_
    refine x_l 45 rfl rfl rfl ?_
    refine z_gf 48 (.ref 91) rfl ⟨rfl, rfl, rfl⟩ rfl rfl ?_
    refine x_l 49 rfl rfl rfl ?_
    refine x_l 50 rfl rfl rfl ?_
    refine z_gf 53 (.ref 91) rfl ⟨rfl, rfl, rfl⟩ rfl rfl ?_
    refine x_l 54 rfl rfl rfl ?_
    refine z_k 55 1 rfl (by decide) rfl ?_
    refine x_s 56 rfl rfl rfl ?_
    have h1 := h.1
    have h := h.2
    refine z_jl 57 120 rfl ⟨rfl, rfl, rfl⟩ rfl h1 rfl ?_
    have h1 := h.1
    have h := h.2
    refine z_js 58 120 rfl ⟨rfl, rfl, rfl⟩ rfl h1 rfl ?_
    refine x_l 59 rfl rfl rfl ?_
    refine z_gf 62 (.ref 92) rfl ⟨rfl, rfl, rfl⟩ rfl rfl ?_
    refine x_l 63 rfl rfl rfl ?_
    refine x_l 64 rfl rfl rfl ?_
    refine z_gf 67 (.ref 92) rfl ⟨rfl, rfl, rfl⟩ rfl rfl ?_
    refine x_l 68 rfl rfl rfl ?_
    refine z_k 69 1 rfl (by decide) rfl ?_
    refine x_s 70 rfl rfl rfl ?_
    have h1 := h.1
    have h := h.2
    refine z_il 71 120 rfl ⟨rfl, rfl, rfl⟩ rfl h1 rfl ?_
    have h1 := h.1
    have h := h.2
    refine z_is 72 120 rfl ⟨rfl, rfl, rfl⟩ rfl h1 rfl ?_
    refine x_t 75 rfl rfl rfl ?_
    refine x_g rfl ?_
    exact h

theorem bk_Wo_add_0 {k : Nat} {pa pb : Nat} {ga : Nat → Nat} {I : pm_II} {J : pm_JJ} {Q : Option Value → pm_H → Prop} {x1 : Int32} {x2 : Int32} {x3 : Int32} {x4 : Int32} (h : ((x1 < 0 → Q (some (.int (-1))) (hp I J (pm_RT pa pb ga))) ∧ (¬ (x1 < 0) → ((3 < x1 → Q (some (.int (-1))) (hp I J (pm_RT pa pb ga))) ∧ (¬ (3 < x1) → ((x4 < 0 → Q (some (.int (-1))) (hp I J (pm_RT pa pb ga))) ∧ (¬ (x4 < 0) → ((x4 ≤ 999 → ((x2 < 1 → Q (some (.int (-1))) (hp I J (pm_RT pa pb ga))) ∧ (¬ (x2 < 1) → ((99 < x2 → Q (some (.int (-1))) (hp I J (pm_RT pa pb ga))) ∧ (¬ (99 < x2) → ((x3 < 1 → Q (some (.int (-1))) (hp I J (pm_RT pa pb ga))) ∧ (¬ (x3 < 1) → ((x3 ≤ 99 → (((I 101 8) < 6 → vp_in (I 101 8) 6 ∧ vp_in (I 101 8) 6 ∧ vp_in (I 101 8) 6 ∧ vp_in (I 101 8) 6 ∧ Q (some (.int (((I 101 8) + (1 : Int32)) - (1 : Int32)))) (hp (pm_up (pm_up (pm_up (pm_up (pm_up (pm_up I 102 (((I 101 8) : Int32).toNatClampNeg) x1) 103 (((I 101 8) : Int32).toNatClampNeg) x2) 104 (((I 101 8) : Int32).toNatClampNeg) x3) 105 (((I 101 8) : Int32).toNatClampNeg) x4) 101 8 ((I 101 8) + (1 : Int32))) 101 14 1) J (pm_RT pa pb ga))) ∧ (¬ ((I 101 8) < 6) → Q (some (.int (-4))) (hp I J (pm_RT pa pb ga))))) ∧ (¬ (x3 ≤ 99) → Q (some (.int (-1))) (hp I J (pm_RT pa pb ga))))))))))) ∧ (¬ (x4 ≤ 999) → Q (some (.int (-1))) (hp I J (pm_RT pa pb ga))))))))))) : Px k 176 m_Wo_add 0 [.ref 101, .int x1, .int x2, .int x3, .int x4] [] (hp I J (pm_RT pa pb ga)) Q := by
  refine x_l 1 rfl rfl rfl ?_
  refine x_b 4 rfl rfl rfl (fun c => ?_) (fun c => ?_)
  · have h := h.1 c
    refine z_k 23 (-1) rfl (by decide) rfl ?_
    exact x_ri rfl (Or.inl rfl) h
  · have h := h.2 c
    refine x_l 5 rfl rfl rfl ?_
    refine z_k 6 3 rfl (by decide) rfl ?_
    refine x_b 9 rfl rfl rfl (fun c => ?_) (fun c => ?_)
    · have h := h.1 c
      refine z_k 23 (-1) rfl (by decide) rfl ?_
      exact x_ri rfl (Or.inl rfl) h
    · have h := h.2 c
      refine x_l 11 rfl rfl rfl ?_
      refine x_b 14 rfl rfl rfl (fun c => ?_) (fun c => ?_)
      · have h := h.1 c
        refine z_k 23 (-1) rfl (by decide) rfl ?_
        exact x_ri rfl (Or.inl rfl) h
      · have h := h.2 c
        refine x_l 16 rfl rfl rfl ?_
        refine z_k 19 999 rfl (by decide) rfl ?_
        refine x_b 22 rfl rfl rfl (fun c => ?_) (fun c => ?_)
        · have h := h.1 c
          refine x_l 25 rfl rfl rfl ?_
          refine z_k 26 1 rfl (by decide) rfl ?_
          refine x_b 29 rfl rfl rfl (fun c => ?_) (fun c => ?_)
          · have h := h.1 c
            refine z_k 47 (-1) rfl (by decide) rfl ?_
            exact x_ri rfl (Or.inl rfl) h
          · have h := h.2 c
            refine x_l 30 rfl rfl rfl ?_
            refine z_k 32 99 rfl (by decide) rfl ?_
            refine x_b 35 rfl rfl rfl (fun c => ?_) (fun c => ?_)
            · have h := h.1 c
              refine z_k 47 (-1) rfl (by decide) rfl ?_
              exact x_ri rfl (Or.inl rfl) h
            · have h := h.2 c
              refine x_l 36 rfl rfl rfl ?_
              refine z_k 37 1 rfl (by decide) rfl ?_
              refine x_b 40 rfl rfl rfl (fun c => ?_) (fun c => ?_)
              · have h := h.1 c
                refine z_k 47 (-1) rfl (by decide) rfl ?_
                exact x_ri rfl (Or.inl rfl) h
              · have h := h.2 c
                refine x_l 41 rfl rfl rfl ?_
                refine z_k 43 99 rfl (by decide) rfl ?_
                refine x_b 46 rfl rfl rfl (fun c => ?_) (fun c => ?_)
                · have h := h.1 c
                  refine x_l 49 rfl rfl rfl ?_
                  refine z_gf 52 (.int (I 101 8)) rfl ⟨rfl, rfl, rfl⟩ rfl rfl ?_
                  refine z_k 54 6 rfl (by decide) rfl ?_
                  refine x_b 57 rfl rfl rfl (fun c => ?_) (fun c => ?_)
                  · have h := h.1 c
                    refine x_l 61 rfl rfl rfl ?_
                    refine z_gf 64 (.ref 102) rfl ⟨rfl, rfl, rfl⟩ rfl rfl ?_
                    refine x_l 65 rfl rfl rfl ?_
                    refine z_gf 68 (.int (I 101 8)) rfl ⟨rfl, rfl, rfl⟩ rfl rfl ?_
                    refine x_l 69 rfl rfl rfl ?_
                    have h1 := h.1
                    have h := h.2
                    refine z_is 70 6 rfl ⟨rfl, rfl, rfl⟩ rfl h1 rfl ?_
                    refine x_l 71 rfl rfl rfl ?_
                    refine z_gf 74 (.ref 103) rfl ⟨rfl, rfl, rfl⟩ rfl rfl ?_
                    refine x_l 75 rfl rfl rfl ?_
                    refine z_gf 78 (.int (I 101 8)) rfl ⟨rfl, rfl, rfl⟩ rfl rfl ?_
                    refine x_l 79 rfl rfl rfl ?_
                    have h1 := h.1
                    have h := h.2
                    refine z_is 80 6 rfl ⟨rfl, rfl, rfl⟩ rfl h1 rfl ?_
                    refine x_l 81 rfl rfl rfl ?_
                    refine z_gf 84 (.ref 104) rfl ⟨rfl, rfl, rfl⟩ rfl rfl ?_
                    refine x_l 85 rfl rfl rfl ?_
                    refine z_gf 88 (.int (I 101 8)) rfl ⟨rfl, rfl, rfl⟩ rfl rfl ?_
                    refine x_l 89 rfl rfl rfl ?_
                    have h1 := h.1
                    have h := h.2
                    refine z_is 90 6 rfl ⟨rfl, rfl, rfl⟩ rfl h1 rfl ?_
                    refine x_l 91 rfl rfl rfl ?_
                    refine z_gf 94 (.ref 105) rfl ⟨rfl, rfl, rfl⟩ rfl rfl ?_
                    refine x_l 95 rfl rfl rfl ?_
                    refine z_gf 98 (.int (I 101 8)) rfl ⟨rfl, rfl, rfl⟩ rfl rfl ?_
                    refine x_l 100 rfl rfl rfl ?_
                    have h1 := h.1
                    have h := h.2
                    refine z_is 101 6 rfl ⟨rfl, rfl, rfl⟩ rfl h1 rfl ?_
                    refine x_l 102 rfl rfl rfl ?_
                    refine x_s 103 rfl rfl rfl ?_
                    refine z_gf 106 (.int (I 101 8)) rfl ⟨rfl, rfl, rfl⟩ rfl rfl ?_
                    refine z_k 107 1 rfl (by decide) rfl ?_
                    refine x_s 108 rfl rfl rfl ?_
                    refine z_pi 111 rfl (Or.inl rfl) rfl (fun z => by cases z) ⟨rfl, rfl, rfl⟩ rfl ?_
                    refine x_l 112 rfl rfl rfl ?_
                    refine z_k 113 1 rfl (by decide) rfl ?_
                    refine z_pi 116 rfl (Or.inr rfl) rfl (fun _ => Or.inr rfl) ⟨rfl, rfl, rfl⟩ rfl ?_
                    refine x_l 117 rfl rfl rfl ?_
                    refine z_gf 120 (.int ((I 101 8) + (1 : Int32))) rfl ⟨rfl, rfl, rfl⟩ rfl rfl ?_
                    refine z_k 121 1 rfl (by decide) rfl ?_
                    refine x_s 122 rfl rfl rfl ?_
                    exact x_ri rfl (Or.inl rfl) h
                  · have h := h.2 c
                    refine z_k 59 (-4) rfl (by decide) rfl ?_
                    exact x_ri rfl (Or.inl rfl) h
                · have h := h.2 c
                  refine z_k 47 (-1) rfl (by decide) rfl ?_
                  exact x_ri rfl (Or.inl rfl) h
        · have h := h.2 c
          refine z_k 23 (-1) rfl (by decide) rfl ?_
          exact x_ri rfl (Or.inl rfl) h

theorem bk_Wo_allow_0 {k : Nat} {pa pb : Nat} {ga : Nat → Nat} {I : pm_II} {J : pm_JJ} {Q : Option Value → pm_H → Prop} {x1 : Int32} {x2 : Int32} (h : ((x1 < 0 → Q (some (.int (-1))) (hp I J (pm_RT pa pb ga))) ∧ (¬ (x1 < 0) → ((50 < x1 → Q (some (.int (-1))) (hp I J (pm_RT pa pb ga))) ∧ (¬ (50 < x1) → ((x2 < 0 → Q (some (.int (-1))) (hp I J (pm_RT pa pb ga))) ∧ (¬ (x2 < 0) → ((x2 ≤ 50 → Q (some (.int 1)) (hp (pm_up (pm_up (pm_up I 101 9 x1) 101 10 x2) 101 14 1) J (pm_RT pa pb ga))) ∧ (¬ (x2 ≤ 50) → Q (some (.int (-1))) (hp I J (pm_RT pa pb ga))))))))))) : Px k 176 m_Wo_allow 0 [.ref 101, .int x1, .int x2] [] (hp I J (pm_RT pa pb ga)) Q := by
  refine x_l 1 rfl rfl rfl ?_
  refine x_b 4 rfl rfl rfl (fun c => ?_) (fun c => ?_)
  · have h := h.1 c
    refine z_k 21 (-1) rfl (by decide) rfl ?_
    exact x_ri rfl (Or.inl rfl) h
  · have h := h.2 c
    refine x_l 5 rfl rfl rfl ?_
    refine z_k 7 50 rfl (by decide) rfl ?_
    refine x_b 10 rfl rfl rfl (fun c => ?_) (fun c => ?_)
    · have h := h.1 c
      refine z_k 21 (-1) rfl (by decide) rfl ?_
      exact x_ri rfl (Or.inl rfl) h
    · have h := h.2 c
      refine x_l 11 rfl rfl rfl ?_
      refine x_b 14 rfl rfl rfl (fun c => ?_) (fun c => ?_)
      · have h := h.1 c
        refine z_k 21 (-1) rfl (by decide) rfl ?_
        exact x_ri rfl (Or.inl rfl) h
      · have h := h.2 c
        refine x_l 15 rfl rfl rfl ?_
        refine z_k 17 50 rfl (by decide) rfl ?_
        refine x_b 20 rfl rfl rfl (fun c => ?_) (fun c => ?_)
        · have h := h.1 c
          refine x_l 23 rfl rfl rfl ?_
          refine x_l 24 rfl rfl rfl ?_
          refine z_pi 27 rfl (Or.inl rfl) rfl (fun z => by cases z) ⟨rfl, rfl, rfl⟩ rfl ?_
          refine x_l 28 rfl rfl rfl ?_
          refine x_l 29 rfl rfl rfl ?_
          refine z_pi 32 rfl (Or.inl rfl) rfl (fun z => by cases z) ⟨rfl, rfl, rfl⟩ rfl ?_
          refine x_l 33 rfl rfl rfl ?_
          refine z_k 34 1 rfl (by decide) rfl ?_
          refine z_pi 37 rfl (Or.inr rfl) rfl (fun _ => Or.inr rfl) ⟨rfl, rfl, rfl⟩ rfl ?_
          refine z_k 38 1 rfl (by decide) rfl ?_
          exact x_ri rfl (Or.inl rfl) h
        · have h := h.2 c
          refine z_k 21 (-1) rfl (by decide) rfl ?_
          exact x_ri rfl (Or.inl rfl) h

theorem bk_Wo_remove_0 {k : Nat} {pa pb : Nat} {ga : Nat → Nat} {I : pm_II} {J : pm_JJ} {Q : Option Value → pm_H → Prop} {x1 : Int32} (h : Px k 176 m_Wo_has 0 [.ref 101, .int x1] [] (hp I J (pm_RT pa pb ga)) (fun r h' => h'.1 = 176 ∧ Px (k + 1) 176 m_Wo_remove 5 [.ref 101, .int x1, .null] (r.toList ++ []) h' Q)) : Px (k + 1) 176 m_Wo_remove 0 [.ref 101, .int x1, .null] [] (hp I J (pm_RT pa pb ga)) Q := by
  refine x_l 1 rfl rfl rfl ?_
  refine x_l 2 rfl rfl rfl ?_
  exact z_cv (As := [.int x1]) (rest := []) (b := 101) rfl at_Wo_has rfl rfl (Nat.le_of_ble_eq_true rfl) (Nat.le_of_ble_eq_true rfl) ⟨rfl, rfl, rfl⟩ (by decide) rfl h

theorem bk_Wo_remove_5 {k : Nat} {pa pb : Nat} {ga : Nat → Nat} {I : pm_II} {J : pm_JJ} {Q : Option Value → pm_H → Prop} {x1 : Int32} {s0 : Int32} (h : ((¬ s0 = 0 → Px (k + 1) 176 m_Wo_remove 22 [.ref 101, .int x1, .int x1] [] (hp (pm_up I 101 8 ((I 101 8) - (1 : Int32))) J (pm_RT pa pb ga)) Q) ∧ (¬ (¬ s0 = 0) → Q (some (.int (-1))) (hp I J (pm_RT pa pb ga))))) : Px (k + 1) 176 m_Wo_remove 5 [.ref 101, .int x1, .null] [.int s0] (hp I J (pm_RT pa pb ga)) Q := by
  refine x_b 8 rfl rfl rfl (fun c => ?_) (fun c => ?_)
  · have h := h.1 c
    refine x_l 11 rfl rfl rfl ?_
    refine x_s 12 rfl rfl rfl ?_
    refine z_gf 15 (.int (I 101 8)) rfl ⟨rfl, rfl, rfl⟩ rfl rfl ?_
    refine z_k 16 1 rfl (by decide) rfl ?_
    refine x_s 17 rfl rfl rfl ?_
    refine z_pi 20 rfl (Or.inl rfl) rfl (fun z => by cases z) ⟨rfl, rfl, rfl⟩ rfl ?_
    refine x_l 21 rfl rfl rfl ?_
    refine x_t 22 rfl rfl rfl ?_
    exact h
  · have h := h.2 c
    refine z_k 9 (-1) rfl (by decide) rfl ?_
    exact x_ri rfl (Or.inl rfl) h

theorem bk_Wo_remove_22 {k : Nat} {pa pb : Nat} {ga : Nat → Nat} {I : pm_II} {J : pm_JJ} {Q : Option Value → pm_H → Prop} {x1 : Int32} {x2 : Int32} (h : (((I 101 8) ≤ x2 → Q (some (.int (I 101 8))) (hp (pm_up I 101 14 1) J (pm_RT pa pb ga))) ∧ (¬ ((I 101 8) ≤ x2) → vp_in (x2 + (1 : Int32)) 6 ∧ vp_in x2 6 ∧ vp_in (x2 + (1 : Int32)) 6 ∧ vp_in x2 6 ∧ vp_in (x2 + (1 : Int32)) 6 ∧ vp_in x2 6 ∧ vp_in (x2 + (1 : Int32)) 6 ∧ vp_in x2 6 ∧ Px (k + 1) 176 m_Wo_remove 22 [.ref 101, .int x1, .int (x2 + Int32.ofInt 1)] [] (hp (pm_up (pm_up (pm_up (pm_up I 102 ((x2 : Int32).toNatClampNeg) (I 102 (((x2 + (1 : Int32)) : Int32).toNatClampNeg))) 103 ((x2 : Int32).toNatClampNeg) (I 103 (((x2 + (1 : Int32)) : Int32).toNatClampNeg))) 104 ((x2 : Int32).toNatClampNeg) (I 104 (((x2 + (1 : Int32)) : Int32).toNatClampNeg))) 105 ((x2 : Int32).toNatClampNeg) (I 105 (((x2 + (1 : Int32)) : Int32).toNatClampNeg))) J (pm_RT pa pb ga)) Q))) : Px (k + 1) 176 m_Wo_remove 22 [.ref 101, .int x1, .int x2] [] (hp I J (pm_RT pa pb ga)) Q := by
  refine x_l 23 rfl rfl rfl ?_
  refine x_l 24 rfl rfl rfl ?_
  refine z_gf 27 (.int (I 101 8)) rfl ⟨rfl, rfl, rfl⟩ rfl rfl ?_
  refine x_b 30 rfl rfl rfl (fun c => ?_) (fun c => ?_)
  · have h := h.1 c
    refine x_l 93 rfl rfl rfl ?_
    refine z_k 94 1 rfl (by decide) rfl ?_
    refine z_pi 97 rfl (Or.inr rfl) rfl (fun _ => Or.inr rfl) ⟨rfl, rfl, rfl⟩ rfl ?_
    refine x_l 98 rfl rfl rfl ?_
    refine z_gf 101 (.int (I 101 8)) rfl ⟨rfl, rfl, rfl⟩ rfl rfl ?_
    exact x_ri rfl (Or.inl rfl) h
  · have h := h.2 c
    refine x_l 31 rfl rfl rfl ?_
    refine z_gf 34 (.ref 102) rfl ⟨rfl, rfl, rfl⟩ rfl rfl ?_
    refine x_l 35 rfl rfl rfl ?_
    refine x_l 36 rfl rfl rfl ?_
    refine z_gf 39 (.ref 102) rfl ⟨rfl, rfl, rfl⟩ rfl rfl ?_
    refine x_l 40 rfl rfl rfl ?_
    refine z_k 41 1 rfl (by decide) rfl ?_
    refine x_s 42 rfl rfl rfl ?_
    have h1 := h.1
    have h := h.2
    refine z_il 43 6 rfl ⟨rfl, rfl, rfl⟩ rfl h1 rfl ?_
    have h1 := h.1
    have h := h.2
    refine z_is 44 6 rfl ⟨rfl, rfl, rfl⟩ rfl h1 rfl ?_
    refine x_l 45 rfl rfl rfl ?_
    refine z_gf 48 (.ref 103) rfl ⟨rfl, rfl, rfl⟩ rfl rfl ?_
    refine x_l 49 rfl rfl rfl ?_
    refine x_l 50 rfl rfl rfl ?_
    refine z_gf 53 (.ref 103) rfl ⟨rfl, rfl, rfl⟩ rfl rfl ?_
    refine x_l 54 rfl rfl rfl ?_
    refine z_k 55 1 rfl (by decide) rfl ?_
    refine x_s 56 rfl rfl rfl ?_
    have h1 := h.1
    have h := h.2
    refine z_il 57 6 rfl ⟨rfl, rfl, rfl⟩ rfl h1 rfl ?_
    have h1 := h.1
    have h := h.2
    refine z_is 58 6 rfl ⟨rfl, rfl, rfl⟩ rfl h1 rfl ?_
    refine x_l 59 rfl rfl rfl ?_
    refine z_gf 62 (.ref 104) rfl ⟨rfl, rfl, rfl⟩ rfl rfl ?_
    refine x_l 63 rfl rfl rfl ?_
    refine x_l 64 rfl rfl rfl ?_
    refine z_gf 67 (.ref 104) rfl ⟨rfl, rfl, rfl⟩ rfl rfl ?_
    refine x_l 68 rfl rfl rfl ?_
    refine z_k 69 1 rfl (by decide) rfl ?_
    refine x_s 70 rfl rfl rfl ?_
    have h1 := h.1
    have h := h.2
    refine z_il 71 6 rfl ⟨rfl, rfl, rfl⟩ rfl h1 rfl ?_
    have h1 := h.1
    have h := h.2
    refine z_is 72 6 rfl ⟨rfl, rfl, rfl⟩ rfl h1 rfl ?_
    refine x_l 73 rfl rfl rfl ?_
    refine z_gf 76 (.ref 105) rfl ⟨rfl, rfl, rfl⟩ rfl rfl ?_
    refine x_l 77 rfl rfl rfl ?_
    refine x_l 78 rfl rfl rfl ?_
    refine z_gf 81 (.ref 105) rfl ⟨rfl, rfl, rfl⟩ rfl rfl ?_
    refine x_l 82 rfl rfl rfl ?_
    refine z_k 83 1 rfl (by decide) rfl ?_
    refine x_s 84 rfl rfl rfl ?_
    have h1 := h.1
    have h := h.2
    refine z_il 85 6 rfl ⟨rfl, rfl, rfl⟩ rfl h1 rfl ?_
    have h1 := h.1
    have h := h.2
    refine z_is 86 6 rfl ⟨rfl, rfl, rfl⟩ rfl h1 rfl ?_
    refine x_t 89 rfl rfl rfl ?_
    refine x_g rfl ?_
    exact h

theorem bk_Wo_has_0 {k : Nat} {pa pb : Nat} {ga : Nat → Nat} {I : pm_II} {J : pm_JJ} {Q : Option Value → pm_H → Prop} {x1 : Int32} (h : ((x1 < 0 → Q (some (.int 0)) (hp I J (pm_RT pa pb ga))) ∧ (¬ (x1 < 0) → (((I 101 8) ≤ x1 → Q (some (.int 0)) (hp I J (pm_RT pa pb ga))) ∧ (¬ ((I 101 8) ≤ x1) → ((6 ≤ x1 → Q (some (.int 0)) (hp I J (pm_RT pa pb ga))) ∧ (¬ (6 ≤ x1) → Q (some (.int 1)) (hp I J (pm_RT pa pb ga))))))))) : Px k 176 m_Wo_has 0 [.ref 101, .int x1] [] (hp I J (pm_RT pa pb ga)) Q := by
  refine x_l 1 rfl rfl rfl ?_
  refine x_b 4 rfl rfl rfl (fun c => ?_) (fun c => ?_)
  · have h := h.1 c
    refine z_k 23 0 rfl (by decide) rfl ?_
    exact x_ri rfl (Or.inr ⟨rfl, Or.inl rfl⟩) h
  · have h := h.2 c
    refine x_l 5 rfl rfl rfl ?_
    refine x_l 6 rfl rfl rfl ?_
    refine z_gf 9 (.int (I 101 8)) rfl ⟨rfl, rfl, rfl⟩ rfl rfl ?_
    refine x_b 12 rfl rfl rfl (fun c => ?_) (fun c => ?_)
    · have h := h.1 c
      refine z_k 23 0 rfl (by decide) rfl ?_
      exact x_ri rfl (Or.inr ⟨rfl, Or.inl rfl⟩) h
    · have h := h.2 c
      refine x_l 13 rfl rfl rfl ?_
      refine z_k 15 6 rfl (by decide) rfl ?_
      refine x_b 18 rfl rfl rfl (fun c => ?_) (fun c => ?_)
      · have h := h.1 c
        refine z_k 23 0 rfl (by decide) rfl ?_
        exact x_ri rfl (Or.inr ⟨rfl, Or.inl rfl⟩) h
      · have h := h.2 c
        refine z_k 19 1 rfl (by decide) rfl ?_
        refine x_g rfl ?_
        exact x_ri rfl (Or.inr ⟨rfl, Or.inr rfl⟩) h

theorem bk_Wo_jobAt_0 {k : Nat} {pa pb : Nat} {ga : Nat → Nat} {I : pm_II} {J : pm_JJ} {Q : Option Value → pm_H → Prop} {x1 : Int32} (h : Px k 176 m_Wo_refresh 0 [.ref 101, .null] [] (hp I J (pm_RT pa pb ga)) (fun r h' => h'.1 = 176 ∧ Px (k + 1) 176 m_Wo_jobAt 4 [.ref 101, .int x1] (r.toList ++ []) h' Q)) : Px (k + 1) 176 m_Wo_jobAt 0 [.ref 101, .int x1] [] (hp I J (pm_RT pa pb ga)) Q := by
  refine x_l 1 rfl rfl rfl ?_
  exact z_cv (As := []) (rest := []) (b := 101) rfl at_Wo_refresh rfl rfl (Nat.le_of_ble_eq_true rfl) (Nat.le_of_ble_eq_true rfl) ⟨rfl, rfl, rfl⟩ (by decide) rfl h

theorem bk_Wo_jobAt_4 {k : Nat} {pa pb : Nat} {ga : Nat → Nat} {I : pm_II} {J : pm_JJ} {Q : Option Value → pm_H → Prop} {x1 : Int32} (h : Px k 176 m_Wo_has 0 [.ref 101, .int x1] [] (hp I J (pm_RT pa pb ga)) (fun r h' => h'.1 = 176 ∧ Px (k + 1) 176 m_Wo_jobAt 9 [.ref 101, .int x1] (r.toList ++ []) h' Q)) : Px (k + 1) 176 m_Wo_jobAt 4 [.ref 101, .int x1] [] (hp I J (pm_RT pa pb ga)) Q := by
  refine x_l 5 rfl rfl rfl ?_
  refine x_l 6 rfl rfl rfl ?_
  exact z_cv (As := [.int x1]) (rest := []) (b := 101) rfl at_Wo_has rfl rfl (Nat.le_of_ble_eq_true rfl) (Nat.le_of_ble_eq_true rfl) ⟨rfl, rfl, rfl⟩ (by decide) rfl h

theorem bk_Wo_jobAt_9 {k : Nat} {pa pb : Nat} {ga : Nat → Nat} {I : pm_II} {J : pm_JJ} {Q : Option Value → pm_H → Prop} {x1 : Int32} {s0 : Int32} (h : ((s0 = 0 → Q (some (.int (-1))) (hp I J (pm_RT pa pb ga))) ∧ (¬ (s0 = 0) → vp_in x1 6 ∧ Q (some (.int (I 106 ((x1 : Int32).toNatClampNeg)))) (hp I J (pm_RT pa pb ga))))) : Px (k + 1) 176 m_Wo_jobAt 9 [.ref 101, .int x1] [.int s0] (hp I J (pm_RT pa pb ga)) Q := by
  refine x_b 12 rfl rfl rfl (fun c => ?_) (fun c => ?_)
  · have h := h.1 c
    refine z_k 22 (-1) rfl (by decide) rfl ?_
    exact x_ri rfl (Or.inl rfl) h
  · have h := h.2 c
    refine x_l 13 rfl rfl rfl ?_
    refine z_gf 16 (.ref 106) rfl ⟨rfl, rfl, rfl⟩ rfl rfl ?_
    refine x_l 17 rfl rfl rfl ?_
    have h1 := h.1
    have h := h.2
    refine z_il 18 6 rfl ⟨rfl, rfl, rfl⟩ rfl h1 rfl ?_
    refine x_g rfl ?_
    exact x_ri rfl (Or.inl rfl) h

theorem bk_Wo_refresh_0 {k : Nat} {pa pb : Nat} {ga : Nat → Nat} {I : pm_II} {J : pm_JJ} {Q : Option Value → pm_H → Prop} (h : ((¬ (I 101 14) = 0 → Px (k + 1) 176 m_Wo_refresh 27 [.ref 101, .int 0] [] (hp (pm_up (pm_up (pm_up I 101 14 0) 101 11 (Int32.ofNat 1000000)) 101 12 (Int32.ofNat 1000000)) J (pm_RT pa pb ga)) Q) ∧ (¬ (¬ (I 101 14) = 0) → Q none (hp I J (pm_RT pa pb ga))))) : Px (k + 1) 176 m_Wo_refresh 0 [.ref 101, .null] [] (hp I J (pm_RT pa pb ga)) Q := by
  refine x_l 1 rfl rfl rfl ?_
  refine z_gf 4 (.int (I 101 14)) rfl ⟨rfl, rfl, rfl⟩ rfl rfl ?_
  refine x_b 7 rfl rfl rfl (fun c => ?_) (fun c => ?_)
  · have h := h.1 c
    refine x_l 9 rfl rfl rfl ?_
    refine z_k 10 0 rfl (by decide) rfl ?_
    refine z_pi 13 rfl (Or.inr rfl) rfl (fun _ => Or.inl rfl) ⟨rfl, rfl, rfl⟩ rfl ?_
    refine x_l 14 rfl rfl rfl ?_
    refine x_li 16 rfl (Or.inl rfl) rfl ?_
    refine z_pi 19 rfl (Or.inl rfl) rfl (fun z => by cases z) ⟨rfl, rfl, rfl⟩ rfl ?_
    refine x_l 20 rfl rfl rfl ?_
    refine x_li 22 rfl (Or.inl rfl) rfl ?_
    refine z_pi 25 rfl (Or.inl rfl) rfl (fun z => by cases z) ⟨rfl, rfl, rfl⟩ rfl ?_
    refine z_k 26 0 rfl (by decide) rfl ?_
    refine x_t 27 rfl rfl rfl ?_
    exact h
  · have h := h.2 c
    exact x_rv rfl rfl h

theorem bk_Wo_refresh_27 {k : Nat} {pa pb : Nat} {ga : Nat → Nat} {I : pm_II} {J : pm_JJ} {Q : Option Value → pm_H → Prop} {x1 : Int32} (h : ((6 ≤ x1 → Px k 176 m_Wo_search 0 [.ref 101, .int 0, .int 0, .int 0, .int 0, .null, .null, .null] [] (hp I J (pm_RT pa pb ga)) (fun r h' => h'.1 = 176 ∧ Px (k + 1) 176 m_Wo_refresh 54 [.ref 101, .int x1] (r.toList ++ []) h' Q)) ∧ (¬ (6 ≤ x1) → vp_in x1 6 ∧ Px (k + 1) 176 m_Wo_refresh 27 [.ref 101, .int (x1 + Int32.ofInt 1)] [] (hp (pm_up I 108 ((x1 : Int32).toNatClampNeg) 0) J (pm_RT pa pb ga)) Q))) : Px (k + 1) 176 m_Wo_refresh 27 [.ref 101, .int x1] [] (hp I J (pm_RT pa pb ga)) Q := by
  refine x_l 28 rfl rfl rfl ?_
  refine z_k 30 6 rfl (by decide) rfl ?_
  refine x_b 33 rfl rfl rfl (fun c => ?_) (fun c => ?_)
  · have h := h.1 c
    refine x_l 47 rfl rfl rfl ?_
    refine z_k 48 0 rfl (by decide) rfl ?_
    refine z_k 49 0 rfl (by decide) rfl ?_
    refine z_k 50 0 rfl (by decide) rfl ?_
    refine z_k 51 0 rfl (by decide) rfl ?_
    exact z_cv (As := [.int 0, .int 0, .int 0, .int 0]) (rest := []) (b := 101) rfl at_Wo_search rfl rfl (Nat.le_of_ble_eq_true rfl) (Nat.le_of_ble_eq_true rfl) ⟨rfl, rfl, rfl⟩ (by decide) rfl h
  · have h := h.2 c
    refine x_l 34 rfl rfl rfl ?_
    refine z_gf 37 (.ref 108) rfl ⟨rfl, rfl, rfl⟩ rfl rfl ?_
    refine x_l 38 rfl rfl rfl ?_
    refine z_k 39 0 rfl (by decide) rfl ?_
    have h1 := h.1
    have h := h.2
    refine z_zs 40 6 rfl ⟨rfl, rfl, rfl⟩ rfl h1 (Or.inl rfl) rfl ?_
    refine x_t 43 rfl rfl rfl ?_
    refine x_g rfl ?_
    exact h

theorem bk_Wo_refresh_54 {k : Nat} {pa pb : Nat} {ga : Nat → Nat} {I : pm_II} {J : pm_JJ} {Q : Option Value → pm_H → Prop} {x1 : Int32} (h : Px k 176 m_Wo_writeSchedule 0 [.ref 101, .null, .null, .null, .null, .null, .null] [] (hp I J (pm_RT pa pb ga)) (fun r h' => h'.1 = 176 ∧ Px (k + 1) 176 m_Wo_refresh 58 [.ref 101, .int x1] (r.toList ++ []) h' Q)) : Px (k + 1) 176 m_Wo_refresh 54 [.ref 101, .int x1] [] (hp I J (pm_RT pa pb ga)) Q := by
  refine x_l 55 rfl rfl rfl ?_
  exact z_cv (As := []) (rest := []) (b := 101) rfl at_Wo_writeSchedule rfl rfl (Nat.le_of_ble_eq_true rfl) (Nat.le_of_ble_eq_true rfl) ⟨rfl, rfl, rfl⟩ (by decide) rfl h

theorem bk_Wo_refresh_58 {k : Nat} {pa pb : Nat} {ga : Nat → Nat} {I : pm_II} {J : pm_JJ} {Q : Option Value → pm_H → Prop} {x1 : Int32} (h : Q none (hp I J (pm_RT pa pb ga))) : Px (k + 1) 176 m_Wo_refresh 58 [.ref 101, .int x1] [] (hp I J (pm_RT pa pb ga)) Q := by
  exact x_rv rfl rfl h

theorem bk_Wo_search_0 {k : Nat} {pa pb : Nat} {ga : Nat → Nat} {I : pm_II} {J : pm_JJ} {Q : Option Value → pm_H → Prop} {x1 : Int32} {x2 : Int32} {x3 : Int32} {x4 : Int32} (h : (((I 101 11) < x4 → Q none (hp I J (pm_RT pa pb ga))) ∧ (¬ ((I 101 11) < x4) → ((¬ x4 = (I 101 11) → Px (k + 1) 176 m_Wo_search 27 [.ref 101, .int x1, .int x2, .int x3, .int x4, .null, .null, .null] [] (hp I J (pm_RT pa pb ga)) Q) ∧ (¬ (¬ x4 = (I 101 11)) → ((x3 < (I 101 12) → Px (k + 1) 176 m_Wo_search 27 [.ref 101, .int x1, .int x2, .int x3, .int x4, .null, .null, .null] [] (hp I J (pm_RT pa pb ga)) Q) ∧ (¬ (x3 < (I 101 12)) → Q none (hp I J (pm_RT pa pb ga))))))))) : Px (k + 1) 176 m_Wo_search 0 [.ref 101, .int x1, .int x2, .int x3, .int x4, .null, .null, .null] [] (hp I J (pm_RT pa pb ga)) Q := by
  refine x_l 2 rfl rfl rfl ?_
  refine x_l 3 rfl rfl rfl ?_
  refine z_gf 6 (.int (I 101 11)) rfl ⟨rfl, rfl, rfl⟩ rfl rfl ?_
  refine x_b 9 rfl rfl rfl (fun c => ?_) (fun c => ?_)
  · have h := h.1 c
    exact x_rv rfl rfl h
  · have h := h.2 c
    refine x_l 11 rfl rfl rfl ?_
    refine x_l 12 rfl rfl rfl ?_
    refine z_gf 15 (.int (I 101 11)) rfl ⟨rfl, rfl, rfl⟩ rfl rfl ?_
    refine x_b 18 rfl rfl rfl (fun c => ?_) (fun c => ?_)
    · have h := h.1 c
      exact h
    · have h := h.2 c
      refine x_l 19 rfl rfl rfl ?_
      refine x_l 20 rfl rfl rfl ?_
      refine z_gf 23 (.int (I 101 12)) rfl ⟨rfl, rfl, rfl⟩ rfl rfl ?_
      refine x_b 26 rfl rfl rfl (fun c => ?_) (fun c => ?_)
      · have h := h.1 c
        exact h
      · have h := h.2 c
        exact x_rv rfl rfl h

theorem bk_Wo_search_27 {k : Nat} {pa pb : Nat} {ga : Nat → Nat} {I : pm_II} {J : pm_JJ} {Q : Option Value → pm_H → Prop} {x1 : Int32} {x2 : Int32} {x3 : Int32} {x4 : Int32} (h : (((I 101 8) ≤ x1 → Px (k + 1) 176 m_Wo_search 41 [.ref 101, .int x1, .int x2, .int x3, .int x4, .null, .null, .null] [] (hp I J (pm_RT pa pb ga)) Q) ∧ (¬ ((I 101 8) ≤ x1) → ((x1 < 6 → Px (k + 1) 176 m_Wo_search 52 [.ref 101, .int x1, .int x2, .int x3, .int x4, .int 0, .null, .null] [] (hp I J (pm_RT pa pb ga)) Q) ∧ (¬ (x1 < 6) → Px (k + 1) 176 m_Wo_search 41 [.ref 101, .int x1, .int x2, .int x3, .int x4, .null, .null, .null] [] (hp I J (pm_RT pa pb ga)) Q))))) : Px (k + 1) 176 m_Wo_search 27 [.ref 101, .int x1, .int x2, .int x3, .int x4, .null, .null, .null] [] (hp I J (pm_RT pa pb ga)) Q := by
  refine x_l 28 rfl rfl rfl ?_
  refine x_l 29 rfl rfl rfl ?_
  refine z_gf 32 (.int (I 101 8)) rfl ⟨rfl, rfl, rfl⟩ rfl rfl ?_
  refine x_b 35 rfl rfl rfl (fun c => ?_) (fun c => ?_)
  · have h := h.1 c
    exact h
  · have h := h.2 c
    refine x_l 36 rfl rfl rfl ?_
    refine z_k 38 6 rfl (by decide) rfl ?_
    refine x_b 41 rfl rfl rfl (fun c => ?_) (fun c => ?_)
    · have h := h.1 c
      refine z_k 50 0 rfl (by decide) rfl ?_
      refine x_t 52 rfl rfl rfl ?_
      exact h
    · have h := h.2 c
      exact h

theorem bk_Wo_search_41 {k : Nat} {pa pb : Nat} {ga : Nat → Nat} {I : pm_II} {J : pm_JJ} {Q : Option Value → pm_H → Prop} {x1 : Int32} {x2 : Int32} {x3 : Int32} {x4 : Int32} (h : Px k 176 m_Wo_keepTrial 0 [.ref 101, .int x3, .int x4, .null] [] (hp I J (pm_RT pa pb ga)) (fun r h' => h'.1 = 176 ∧ Px (k + 1) 176 m_Wo_search 48 [.ref 101, .int x1, .int x2, .int x3, .int x4, .null, .null, .null] (r.toList ++ []) h' Q)) : Px (k + 1) 176 m_Wo_search 41 [.ref 101, .int x1, .int x2, .int x3, .int x4, .null, .null, .null] [] (hp I J (pm_RT pa pb ga)) Q := by
  refine x_l 42 rfl rfl rfl ?_
  refine x_l 43 rfl rfl rfl ?_
  refine x_l 45 rfl rfl rfl ?_
  exact z_cv (As := [.int x3, .int x4]) (rest := []) (b := 101) rfl at_Wo_keepTrial rfl rfl (Nat.le_of_ble_eq_true rfl) (Nat.le_of_ble_eq_true rfl) ⟨rfl, rfl, rfl⟩ (by decide) rfl h

theorem bk_Wo_search_48 {k : Nat} {pa pb : Nat} {ga : Nat → Nat} {I : pm_II} {J : pm_JJ} {Q : Option Value → pm_H → Prop} {x1 : Int32} {x2 : Int32} {x3 : Int32} {x4 : Int32} (h : Q none (hp I J (pm_RT pa pb ga))) : Px (k + 1) 176 m_Wo_search 48 [.ref 101, .int x1, .int x2, .int x3, .int x4, .null, .null, .null] [] (hp I J (pm_RT pa pb ga)) Q := by
  exact x_rv rfl rfl h

theorem bk_Wo_search_52 {k : Nat} {pa pb : Nat} {ga : Nat → Nat} {I : pm_II} {J : pm_JJ} {Q : Option Value → pm_H → Prop} {x1 : Int32} {x2 : Int32} {x3 : Int32} {x4 : Int32} {x5 : Int32} (h : (((I 101 8) ≤ x5 → Px (k + 1) 176 m_Wo_search 186 [.ref 101, .int x1, .int x2, .int x3, .int x4, .int x5, .null, .null] [] (hp I J (pm_RT pa pb ga)) Q) ∧ (¬ ((I 101 8) ≤ x5) → ((6 ≤ x5 → Px (k + 1) 176 m_Wo_search 186 [.ref 101, .int x1, .int x2, .int x3, .int x4, .int x5, .null, .null] [] (hp I J (pm_RT pa pb ga)) Q) ∧ (¬ (6 ≤ x5) → vp_in x5 6 ∧ ((¬ (I 108 ((x5 : Int32).toNatClampNeg)) = 0 → Px (k + 1) 176 m_Wo_search 52 [.ref 101, .int x1, .int x2, .int x3, .int x4, .int (x5 + Int32.ofInt 1), .null, .null] [] (hp I J (pm_RT pa pb ga)) Q) ∧ (¬ (¬ (I 108 ((x5 : Int32).toNatClampNeg)) = 0) → vp_in x5 6 ∧ vp_in x1 6 ∧ Px k 176 m_Wo_changeAhead 0 [.ref 101, .ref 107, .int x1] [] (hp (pm_up (pm_up I 108 ((x5 : Int32).toNatClampNeg) 1) 107 ((x1 : Int32).toNatClampNeg) x5) J (pm_RT pa pb ga)) (fun r h' => h'.1 = 176 ∧ Px (k + 1) 176 m_Wo_search 104 [.ref 101, .int x1, .int x2, .int x3, .int x4, .int x5, .null, .null] (r.toList ++ [.int x2]) h' Q)))))))) : Px (k + 1) 176 m_Wo_search 52 [.ref 101, .int x1, .int x2, .int x3, .int x4, .int x5, .null, .null] [] (hp I J (pm_RT pa pb ga)) Q := by
  refine x_l 54 rfl rfl rfl ?_
  refine x_l 55 rfl rfl rfl ?_
  refine z_gf 58 (.int (I 101 8)) rfl ⟨rfl, rfl, rfl⟩ rfl rfl ?_
  refine x_b 61 rfl rfl rfl (fun c => ?_) (fun c => ?_)
  · have h := h.1 c
    exact h
  · have h := h.2 c
    refine x_l 63 rfl rfl rfl ?_
    refine z_k 65 6 rfl (by decide) rfl ?_
    refine x_b 68 rfl rfl rfl (fun c => ?_) (fun c => ?_)
    · have h := h.1 c
      exact h
    · have h := h.2 c
      refine x_l 69 rfl rfl rfl ?_
      refine z_gf 72 (.ref 108) rfl ⟨rfl, rfl, rfl⟩ rfl rfl ?_
      refine x_l 74 rfl rfl rfl ?_
      have h1 := h.1
      have h := h.2
      refine z_zl 75 6 rfl ⟨rfl, rfl, rfl⟩ rfl h1 rfl ?_
      refine x_b 78 rfl rfl rfl (fun c => ?_) (fun c => ?_)
      · have h := h.1 c
        refine x_t 183 rfl rfl rfl ?_
        refine x_g rfl ?_
        exact h
      · have h := h.2 c
        refine x_l 79 rfl rfl rfl ?_
        refine z_gf 82 (.ref 108) rfl ⟨rfl, rfl, rfl⟩ rfl rfl ?_
        refine x_l 84 rfl rfl rfl ?_
        refine z_k 85 1 rfl (by decide) rfl ?_
        have h1 := h.1
        have h := h.2
        refine z_zs 86 6 rfl ⟨rfl, rfl, rfl⟩ rfl h1 (Or.inr rfl) rfl ?_
        refine x_l 87 rfl rfl rfl ?_
        refine z_gf 90 (.ref 107) rfl ⟨rfl, rfl, rfl⟩ rfl rfl ?_
        refine x_l 91 rfl rfl rfl ?_
        refine x_l 93 rfl rfl rfl ?_
        have h1 := h.1
        have h := h.2
        refine z_is 94 6 rfl ⟨rfl, rfl, rfl⟩ rfl h1 rfl ?_
        refine x_l 95 rfl rfl rfl ?_
        refine x_l 96 rfl rfl rfl ?_
        refine x_l 97 rfl rfl rfl ?_
        refine z_gf 100 (.ref 107) rfl ⟨rfl, rfl, rfl⟩ rfl rfl ?_
        refine x_l 101 rfl rfl rfl ?_
        exact z_cv (As := [.ref 107, .int x1]) (rest := [.int x2]) (b := 101) rfl at_Wo_changeAhead rfl rfl (Nat.le_of_ble_eq_true rfl) (Nat.le_of_ble_eq_true rfl) ⟨rfl, rfl, rfl⟩ (by decide) rfl h

theorem bk_Wo_search_104 {k : Nat} {pa pb : Nat} {ga : Nat → Nat} {I : pm_II} {J : pm_JJ} {Q : Option Value → pm_H → Prop} {x1 : Int32} {x2 : Int32} {x3 : Int32} {x4 : Int32} {x5 : Int32} {s0 : Int32} {s1 : Int32} (h : vp_in x5 6 ∧ Px k 176 m_Jm_max 0 [.int (((s0 + s1) + (I 103 ((x5 : Int32).toNatClampNeg))) + (I 101 10)), .int x3] [] (hp I J (pm_RT pa pb ga)) (fun r h' => h'.1 = 176 ∧ Px (k + 1) 176 m_Wo_search 126 [.ref 101, .int x1, .int x2, .int x3, .int x4, .int x5, .int (s0 + s1), .null] (r.toList ++ []) h' Q)) : Px (k + 1) 176 m_Wo_search 104 [.ref 101, .int x1, .int x2, .int x3, .int x4, .int x5, .null, .null] [.int s1, .int s0] (hp I J (pm_RT pa pb ga)) Q := by
  refine x_s 105 rfl rfl rfl ?_
  refine x_t 107 rfl rfl rfl ?_
  refine x_l 109 rfl rfl rfl ?_
  refine x_l 110 rfl rfl rfl ?_
  refine z_gf 113 (.ref 103) rfl ⟨rfl, rfl, rfl⟩ rfl rfl ?_
  refine x_l 115 rfl rfl rfl ?_
  have h1 := h.1
  have h := h.2
  refine z_il 116 6 rfl ⟨rfl, rfl, rfl⟩ rfl h1 rfl ?_
  refine x_s 117 rfl rfl rfl ?_
  refine x_l 118 rfl rfl rfl ?_
  refine z_gf 121 (.int (I 101 10)) rfl ⟨rfl, rfl, rfl⟩ rfl rfl ?_
  refine x_s 122 rfl rfl rfl ?_
  refine x_l 123 rfl rfl rfl ?_
  exact z_cs (As := [.int (((s0 + s1) + (I 103 ((x5 : Int32).toNatClampNeg))) + (I 101 10)), .int x3]) (rest := []) rfl at_Jm_max rfl rfl (Nat.le_of_ble_eq_true rfl) (Nat.le_of_ble_eq_true rfl) rfl h

theorem bk_Wo_search_126 {k : Nat} {pa pb : Nat} {ga : Nat → Nat} {I : pm_II} {J : pm_JJ} {Q : Option Value → pm_H → Prop} {x1 : Int32} {x2 : Int32} {x3 : Int32} {x4 : Int32} {x5 : Int32} {x6 : Int32} {s0 : Int32} (h : vp_in x5 6 ∧ vp_in x5 6 ∧ vp_in x5 6 ∧ Px k 176 m_Jm_max 0 [.int 0, .int ((s0 + (I 104 ((x5 : Int32).toNatClampNeg))) - (I 105 ((x5 : Int32).toNatClampNeg)))] [] (hp I J (pm_RT pa pb ga)) (fun r h' => h'.1 = 176 ∧ Px (k + 1) 176 m_Wo_search 168 [.ref 101, .int x1, .int x2, .int x3, .int x4, .int x5, .int x6, .int (s0 + (I 104 ((x5 : Int32).toNatClampNeg)))] (r.toList ++ [.int x4, .int (s0 + (I 104 ((x5 : Int32).toNatClampNeg))), .int (x6 + (I 103 ((x5 : Int32).toNatClampNeg))), .int (x1 + (1 : Int32)), .ref 101]) h' Q)) : Px (k + 1) 176 m_Wo_search 126 [.ref 101, .int x1, .int x2, .int x3, .int x4, .int x5, .int x6, .null] [.int s0] (hp I J (pm_RT pa pb ga)) Q := by
  refine x_l 127 rfl rfl rfl ?_
  refine z_gf 130 (.ref 104) rfl ⟨rfl, rfl, rfl⟩ rfl rfl ?_
  refine x_l 132 rfl rfl rfl ?_
  have h1 := h.1
  have h := h.2
  refine z_il 133 6 rfl ⟨rfl, rfl, rfl⟩ rfl h1 rfl ?_
  refine x_s 134 rfl rfl rfl ?_
  refine x_t 136 rfl rfl rfl ?_
  refine x_l 137 rfl rfl rfl ?_
  refine x_l 138 rfl rfl rfl ?_
  refine z_k 139 1 rfl (by decide) rfl ?_
  refine x_s 140 rfl rfl rfl ?_
  refine x_l 142 rfl rfl rfl ?_
  refine x_l 143 rfl rfl rfl ?_
  refine z_gf 146 (.ref 103) rfl ⟨rfl, rfl, rfl⟩ rfl rfl ?_
  refine x_l 148 rfl rfl rfl ?_
  have h1 := h.1
  have h := h.2
  refine z_il 149 6 rfl ⟨rfl, rfl, rfl⟩ rfl h1 rfl ?_
  refine x_s 150 rfl rfl rfl ?_
  refine x_l 152 rfl rfl rfl ?_
  refine x_l 154 rfl rfl rfl ?_
  refine z_k 155 0 rfl (by decide) rfl ?_
  refine x_l 157 rfl rfl rfl ?_
  refine x_l 158 rfl rfl rfl ?_
  refine z_gf 161 (.ref 105) rfl ⟨rfl, rfl, rfl⟩ rfl rfl ?_
  refine x_l 163 rfl rfl rfl ?_
  have h1 := h.1
  have h := h.2
  refine z_il 164 6 rfl ⟨rfl, rfl, rfl⟩ rfl h1 rfl ?_
  refine x_s 165 rfl rfl rfl ?_
  exact z_cs (As := [.int 0, .int ((s0 + (I 104 ((x5 : Int32).toNatClampNeg))) - (I 105 ((x5 : Int32).toNatClampNeg)))]) (rest := [.int x4, .int (s0 + (I 104 ((x5 : Int32).toNatClampNeg))), .int (x6 + (I 103 ((x5 : Int32).toNatClampNeg))), .int (x1 + (1 : Int32)), .ref 101]) rfl at_Jm_max rfl rfl (Nat.le_of_ble_eq_true rfl) (Nat.le_of_ble_eq_true rfl) rfl h

theorem bk_Wo_search_168 {k : Nat} {pa pb : Nat} {ga : Nat → Nat} {I : pm_II} {J : pm_JJ} {Q : Option Value → pm_H → Prop} {x1 : Int32} {x2 : Int32} {x3 : Int32} {x4 : Int32} {x5 : Int32} {x6 : Int32} {x7 : Int32} {s1 : Int32} {s2 : Int32} {s3 : Int32} {s4 : Int32} {s5 : Int32} (h : Px k 176 m_Wo_search 0 [.ref 101, .int s1, .int s2, .int s3, .int (s4 + s5), .null, .null, .null] [] (hp I J (pm_RT pa pb ga)) (fun r h' => h'.1 = 176 ∧ Px (k + 1) 176 m_Wo_search 172 [.ref 101, .int x1, .int x2, .int x3, .int x4, .int x5, .int x6, .int x7] (r.toList ++ []) h' Q)) : Px (k + 1) 176 m_Wo_search 168 [.ref 101, .int x1, .int x2, .int x3, .int x4, .int x5, .int x6, .int x7] [.int s5, .int s4, .int s3, .int s2, .int s1, .ref 101] (hp I J (pm_RT pa pb ga)) Q := by
  refine x_s 169 rfl rfl rfl ?_
  exact z_cv (As := [.int s1, .int s2, .int s3, .int (s4 + s5)]) (rest := []) (b := 101) rfl at_Wo_search rfl rfl (Nat.le_of_ble_eq_true rfl) (Nat.le_of_ble_eq_true rfl) ⟨rfl, rfl, rfl⟩ (by decide) rfl h

theorem bk_Wo_search_172 {k : Nat} {pa pb : Nat} {ga : Nat → Nat} {I : pm_II} {J : pm_JJ} {Q : Option Value → pm_H → Prop} {x1 : Int32} {x2 : Int32} {x3 : Int32} {x4 : Int32} {x5 : Int32} {x6 : Int32} {x7 : Int32} (h : vp_in x5 6 ∧ Px (k + 1) 176 m_Wo_search 52 [.ref 101, .int x1, .int x2, .int x3, .int x4, .int (x5 + Int32.ofInt 1), .int x6, .int x7] [] (hp (pm_up I 108 ((x5 : Int32).toNatClampNeg) 0) J (pm_RT pa pb ga)) Q) : Px (k + 1) 176 m_Wo_search 172 [.ref 101, .int x1, .int x2, .int x3, .int x4, .int x5, .int x6, .int x7] [] (hp I J (pm_RT pa pb ga)) Q := by
  refine x_l 173 rfl rfl rfl ?_
  refine z_gf 176 (.ref 108) rfl ⟨rfl, rfl, rfl⟩ rfl rfl ?_
  refine x_l 178 rfl rfl rfl ?_
  refine z_k 179 0 rfl (by decide) rfl ?_
  have h1 := h.1
  have h := h.2
  refine z_zs 180 6 rfl ⟨rfl, rfl, rfl⟩ rfl h1 (Or.inl rfl) rfl ?_
  refine x_t 183 rfl rfl rfl ?_
  refine x_g rfl ?_
  exact h

theorem bk_Wo_search_186 {k : Nat} {pa pb : Nat} {ga : Nat → Nat} {I : pm_II} {J : pm_JJ} {Q : Option Value → pm_H → Prop} {x1 : Int32} {x2 : Int32} {x3 : Int32} {x4 : Int32} {x5 : Int32} (h : Q none (hp I J (pm_RT pa pb ga))) : Px (k + 1) 176 m_Wo_search 186 [.ref 101, .int x1, .int x2, .int x3, .int x4, .int x5, .null, .null] [] (hp I J (pm_RT pa pb ga)) Q := by
  exact x_rv rfl rfl h

theorem bk_Wo_keepTrial_0 {k : Nat} {pa pb : Nat} {ga : Nat → Nat} {I : pm_II} {J : pm_JJ} {Q : Option Value → pm_H → Prop} {x1 : Int32} {x2 : Int32} (h : Px k 176 m_Wo_keepTrial 12 [.ref 101, .int x1, .int x2, .int 0] [] (hp (pm_up (pm_up I 101 11 x2) 101 12 x1) J (pm_RT pa pb ga)) Q) : Px k 176 m_Wo_keepTrial 0 [.ref 101, .int x1, .int x2, .null] [] (hp I J (pm_RT pa pb ga)) Q := by
  refine x_l 1 rfl rfl rfl ?_
  refine x_l 2 rfl rfl rfl ?_
  refine z_pi 5 rfl (Or.inl rfl) rfl (fun z => by cases z) ⟨rfl, rfl, rfl⟩ rfl ?_
  refine x_l 6 rfl rfl rfl ?_
  refine x_l 7 rfl rfl rfl ?_
  refine z_pi 10 rfl (Or.inl rfl) rfl (fun z => by cases z) ⟨rfl, rfl, rfl⟩ rfl ?_
  refine z_k 11 0 rfl (by decide) rfl ?_
  refine x_t 12 rfl rfl rfl ?_
  exact h

theorem bk_Wo_keepTrial_12 {k : Nat} {pa pb : Nat} {ga : Nat → Nat} {I : pm_II} {J : pm_JJ} {Q : Option Value → pm_H → Prop} {x1 : Int32} {x2 : Int32} {x3 : Int32} (h : ((6 ≤ x3 → Q none (hp I J (pm_RT pa pb ga))) ∧ (¬ (6 ≤ x3) → vp_in x3 6 ∧ vp_in x3 6 ∧ Px k 176 m_Wo_keepTrial 12 [.ref 101, .int x1, .int x2, .int (x3 + Int32.ofInt 1)] [] (hp (pm_up I 106 ((x3 : Int32).toNatClampNeg) (I 107 ((x3 : Int32).toNatClampNeg))) J (pm_RT pa pb ga)) Q))) : Px k 176 m_Wo_keepTrial 12 [.ref 101, .int x1, .int x2, .int x3] [] (hp I J (pm_RT pa pb ga)) Q := by
  refine x_l 13 rfl rfl rfl ?_
  refine z_k 15 6 rfl (by decide) rfl ?_
  refine x_b 18 rfl rfl rfl (fun c => ?_) (fun c => ?_)
  · have h := h.1 c
    exact x_rv rfl rfl h
  · have h := h.2 c
    refine x_l 19 rfl rfl rfl ?_
    refine z_gf 22 (.ref 106) rfl ⟨rfl, rfl, rfl⟩ rfl rfl ?_
    refine x_l 23 rfl rfl rfl ?_
    refine x_l 24 rfl rfl rfl ?_
    refine z_gf 27 (.ref 107) rfl ⟨rfl, rfl, rfl⟩ rfl rfl ?_
    refine x_l 28 rfl rfl rfl ?_
    have h1 := h.1
    have h := h.2
    refine z_il 29 6 rfl ⟨rfl, rfl, rfl⟩ rfl h1 rfl ?_
    have h1 := h.1
    have h := h.2
    refine z_is 30 6 rfl ⟨rfl, rfl, rfl⟩ rfl h1 rfl ?_
    refine x_t 33 rfl rfl rfl ?_
    refine x_g rfl ?_
    exact h

theorem bk_Wo_changeAhead_0 {k : Nat} {pa pb : Nat} {ga : Nat → Nat} {I : pm_II} {J : pm_JJ} {Q : Option Value → pm_H → Prop} {a1 : Nat} {x2 : Int32} (h : Px k 176 m_Wo_isChange 0 [.ref 101, .ref a1, .int x2] [] (hp I J (pm_RT pa pb ga)) (fun r h' => h'.1 = 176 ∧ Px (k + 1) 176 m_Wo_changeAhead 6 [.ref 101, .ref a1, .int x2] (r.toList ++ []) h' Q)) : Px (k + 1) 176 m_Wo_changeAhead 0 [.ref 101, .ref a1, .int x2] [] (hp I J (pm_RT pa pb ga)) Q := by
  refine x_l 1 rfl rfl rfl ?_
  refine x_l 2 rfl rfl rfl ?_
  refine x_l 3 rfl rfl rfl ?_
  exact z_cv (As := [.ref a1, .int x2]) (rest := []) (b := 101) rfl at_Wo_isChange rfl rfl (Nat.le_of_ble_eq_true rfl) (Nat.le_of_ble_eq_true rfl) ⟨rfl, rfl, rfl⟩ (by decide) rfl h

theorem bk_Wo_changeAhead_6 {k : Nat} {pa pb : Nat} {ga : Nat → Nat} {I : pm_II} {J : pm_JJ} {Q : Option Value → pm_H → Prop} {a1 : Nat} {x2 : Int32} {s0 : Int32} (h : ((s0 = 0 → Q (some (.int 0)) (hp I J (pm_RT pa pb ga))) ∧ (¬ (s0 = 0) → Q (some (.int (I 101 9))) (hp I J (pm_RT pa pb ga))))) : Px (k + 1) 176 m_Wo_changeAhead 6 [.ref 101, .ref a1, .int x2] [.int s0] (hp I J (pm_RT pa pb ga)) Q := by
  refine x_b 9 rfl rfl rfl (fun c => ?_) (fun c => ?_)
  · have h := h.1 c
    refine z_k 17 0 rfl (by decide) rfl ?_
    exact x_ri rfl (Or.inl rfl) h
  · have h := h.2 c
    refine x_l 10 rfl rfl rfl ?_
    refine z_gf 13 (.int (I 101 9)) rfl ⟨rfl, rfl, rfl⟩ rfl rfl ?_
    refine x_g rfl ?_
    exact x_ri rfl (Or.inl rfl) h

theorem bk_Wo_isChange_0 {k : Nat} {pa pb : Nat} {ga : Nat → Nat} {I : pm_II} {J : pm_JJ} {Q : Option Value → pm_H → Prop} {a1 : Nat} {x2 : Int32} (h : ((x2 ≤ 0 → Q (some (.int 0)) (hp I J (pm_RT pa pb ga))) ∧ (¬ (x2 ≤ 0) → pm_ob a1 100 ∧ (((Int32.ofNat (pm_sh a1).2) ≤ x2 → Q (some (.int 0)) (hp I J (pm_RT pa pb ga))) ∧ (¬ ((Int32.ofNat (pm_sh a1).2) ≤ x2) → pm_ob a1 100 ∧ vp_in x2 (pm_sh a1).2 ∧ Px k 176 m_Wo_has 0 [.ref 101, .int (I a1 ((x2 : Int32).toNatClampNeg))] [] (hp I J (pm_RT pa pb ga)) (fun r h' => h'.1 = 176 ∧ Px (k + 1) 176 m_Wo_isChange 17 [.ref 101, .ref a1, .int x2] (r.toList ++ []) h' Q)))))) : Px (k + 1) 176 m_Wo_isChange 0 [.ref 101, .ref a1, .int x2] [] (hp I J (pm_RT pa pb ga)) Q := by
  refine x_l 1 rfl rfl rfl ?_
  refine x_b 4 rfl rfl rfl (fun c => ?_) (fun c => ?_)
  · have h := h.1 c
    refine z_k 58 0 rfl (by decide) rfl ?_
    exact x_ri rfl (Or.inr ⟨rfl, Or.inl rfl⟩) h
  · have h := h.2 c
    refine x_l 5 rfl rfl rfl ?_
    refine x_l 6 rfl rfl rfl ?_
    have h0 := h.1
    have h := h.2
    refine z_al 7 (pm_sh a1).2 rfl h0 rfl rfl ?_
    refine x_b 10 rfl rfl rfl (fun c => ?_) (fun c => ?_)
    · have h := h.1 c
      refine z_k 58 0 rfl (by decide) rfl ?_
      exact x_ri rfl (Or.inr ⟨rfl, Or.inl rfl⟩) h
    · have h := h.2 c
      refine x_l 11 rfl rfl rfl ?_
      refine x_l 12 rfl rfl rfl ?_
      refine x_l 13 rfl rfl rfl ?_
      have h0 := h.1
      have h := h.2
      have h1 := h.1
      have h := h.2
      refine z_il 14 (pm_sh a1).2 rfl h0 rfl h1 rfl ?_
      exact z_cv (As := [.int (I a1 ((x2 : Int32).toNatClampNeg))]) (rest := []) (b := 101) rfl at_Wo_has rfl rfl (Nat.le_of_ble_eq_true rfl) (Nat.le_of_ble_eq_true rfl) ⟨rfl, rfl, rfl⟩ (by decide) rfl h

theorem bk_Wo_isChange_17 {k : Nat} {pa pb : Nat} {ga : Nat → Nat} {I : pm_II} {J : pm_JJ} {Q : Option Value → pm_H → Prop} {a1 : Nat} {x2 : Int32} {s0 : Int32} (h : ((s0 = 0 → Q (some (.int 0)) (hp I J (pm_RT pa pb ga))) ∧ (¬ (s0 = 0) → pm_ob a1 100 ∧ vp_in (x2 - (1 : Int32)) (pm_sh a1).2 ∧ Px k 176 m_Wo_has 0 [.ref 101, .int (I a1 (((x2 - (1 : Int32)) : Int32).toNatClampNeg))] [] (hp I J (pm_RT pa pb ga)) (fun r h' => h'.1 = 176 ∧ Px (k + 1) 176 m_Wo_isChange 29 [.ref 101, .ref a1, .int x2] (r.toList ++ []) h' Q)))) : Px (k + 1) 176 m_Wo_isChange 17 [.ref 101, .ref a1, .int x2] [.int s0] (hp I J (pm_RT pa pb ga)) Q := by
  refine x_b 20 rfl rfl rfl (fun c => ?_) (fun c => ?_)
  · have h := h.1 c
    refine z_k 58 0 rfl (by decide) rfl ?_
    exact x_ri rfl (Or.inr ⟨rfl, Or.inl rfl⟩) h
  · have h := h.2 c
    refine x_l 21 rfl rfl rfl ?_
    refine x_l 22 rfl rfl rfl ?_
    refine x_l 23 rfl rfl rfl ?_
    refine z_k 24 1 rfl (by decide) rfl ?_
    refine x_s 25 rfl rfl rfl ?_
    have h0 := h.1
    have h := h.2
    have h1 := h.1
    have h := h.2
    refine z_il 26 (pm_sh a1).2 rfl h0 rfl h1 rfl ?_
    exact z_cv (As := [.int (I a1 (((x2 - (1 : Int32)) : Int32).toNatClampNeg))]) (rest := []) (b := 101) rfl at_Wo_has rfl rfl (Nat.le_of_ble_eq_true rfl) (Nat.le_of_ble_eq_true rfl) ⟨rfl, rfl, rfl⟩ (by decide) rfl h

theorem bk_Wo_isChange_29 {k : Nat} {pa pb : Nat} {ga : Nat → Nat} {I : pm_II} {J : pm_JJ} {Q : Option Value → pm_H → Prop} {a1 : Nat} {x2 : Int32} {s0 : Int32} (h : ((s0 = 0 → Q (some (.int 0)) (hp I J (pm_RT pa pb ga))) ∧ (¬ (s0 = 0) → pm_ob a1 100 ∧ vp_in x2 (pm_sh a1).2 ∧ vp_in (I a1 ((x2 : Int32).toNatClampNeg)) 6 ∧ pm_ob a1 100 ∧ vp_in (x2 - (1 : Int32)) (pm_sh a1).2 ∧ vp_in (I a1 (((x2 - (1 : Int32)) : Int32).toNatClampNeg)) 6 ∧ (((I 102 (((I a1 ((x2 : Int32).toNatClampNeg)) : Int32).toNatClampNeg)) = (I 102 (((I a1 (((x2 - (1 : Int32)) : Int32).toNatClampNeg)) : Int32).toNatClampNeg)) → Q (some (.int 0)) (hp I J (pm_RT pa pb ga))) ∧ (¬ ((I 102 (((I a1 ((x2 : Int32).toNatClampNeg)) : Int32).toNatClampNeg)) = (I 102 (((I a1 (((x2 - (1 : Int32)) : Int32).toNatClampNeg)) : Int32).toNatClampNeg))) → Q (some (.int 1)) (hp I J (pm_RT pa pb ga))))))) : Px (k + 1) 176 m_Wo_isChange 29 [.ref 101, .ref a1, .int x2] [.int s0] (hp I J (pm_RT pa pb ga)) Q := by
  refine x_b 32 rfl rfl rfl (fun c => ?_) (fun c => ?_)
  · have h := h.1 c
    refine z_k 58 0 rfl (by decide) rfl ?_
    exact x_ri rfl (Or.inr ⟨rfl, Or.inl rfl⟩) h
  · have h := h.2 c
    refine x_l 33 rfl rfl rfl ?_
    refine z_gf 36 (.ref 102) rfl ⟨rfl, rfl, rfl⟩ rfl rfl ?_
    refine x_l 37 rfl rfl rfl ?_
    refine x_l 38 rfl rfl rfl ?_
    have h0 := h.1
    have h := h.2
    have h1 := h.1
    have h := h.2
    refine z_il 39 (pm_sh a1).2 rfl h0 rfl h1 rfl ?_
    have h1 := h.1
    have h := h.2
    refine z_il 40 6 rfl ⟨rfl, rfl, rfl⟩ rfl h1 rfl ?_
    refine x_l 41 rfl rfl rfl ?_
    refine z_gf 44 (.ref 102) rfl ⟨rfl, rfl, rfl⟩ rfl rfl ?_
    refine x_l 45 rfl rfl rfl ?_
    refine x_l 46 rfl rfl rfl ?_
    refine z_k 47 1 rfl (by decide) rfl ?_
    refine x_s 48 rfl rfl rfl ?_
    have h0 := h.1
    have h := h.2
    have h1 := h.1
    have h := h.2
    refine z_il 49 (pm_sh a1).2 rfl h0 rfl h1 rfl ?_
    have h1 := h.1
    have h := h.2
    refine z_il 50 6 rfl ⟨rfl, rfl, rfl⟩ rfl h1 rfl ?_
    refine x_b 53 rfl rfl rfl (fun c => ?_) (fun c => ?_)
    · have h := h.1 c
      refine z_k 58 0 rfl (by decide) rfl ?_
      exact x_ri rfl (Or.inr ⟨rfl, Or.inl rfl⟩) h
    · have h := h.2 c
      refine z_k 54 1 rfl (by decide) rfl ?_
      refine x_g rfl ?_
      exact x_ri rfl (Or.inr ⟨rfl, Or.inr rfl⟩) h

theorem bk_Wo_writeSchedule_0 {k : Nat} {pa pb : Nat} {ga : Nat → Nat} {I : pm_II} {J : pm_JJ} {Q : Option Value → pm_H → Prop} (h : Px (k + 1) 176 m_Wo_writeSchedule 11 [.ref 101, .int 0, .int 0, .int 0, .null, .null, .null] [] (hp (pm_up I 101 13 0) J (pm_RT pa pb ga)) Q) : Px (k + 1) 176 m_Wo_writeSchedule 0 [.ref 101, .null, .null, .null, .null, .null, .null] [] (hp I J (pm_RT pa pb ga)) Q := by
  refine z_k 1 0 rfl (by decide) rfl ?_
  refine x_t 2 rfl rfl rfl ?_
  refine z_k 3 0 rfl (by decide) rfl ?_
  refine x_t 4 rfl rfl rfl ?_
  refine x_l 5 rfl rfl rfl ?_
  refine z_k 6 0 rfl (by decide) rfl ?_
  refine z_pi 9 rfl (Or.inl rfl) rfl (fun z => by cases z) ⟨rfl, rfl, rfl⟩ rfl ?_
  refine z_k 10 0 rfl (by decide) rfl ?_
  refine x_t 11 rfl rfl rfl ?_
  exact h

theorem bk_Wo_writeSchedule_11 {k : Nat} {pa pb : Nat} {ga : Nat → Nat} {I : pm_II} {J : pm_JJ} {Q : Option Value → pm_H → Prop} {x1 : Int32} {x2 : Int32} {x3 : Int32} (h : (((I 101 8) ≤ x3 → Px (k + 1) 176 m_Wo_writeSchedule 194 [.ref 101, .int x1, .int x2, .int x3, .null, .null, .null] [] (hp I J (pm_RT pa pb ga)) Q) ∧ (¬ ((I 101 8) ≤ x3) → ((6 ≤ x3 → Px (k + 1) 176 m_Wo_writeSchedule 194 [.ref 101, .int x1, .int x2, .int x3, .null, .null, .null] [] (hp I J (pm_RT pa pb ga)) Q) ∧ (¬ (6 ≤ x3) → vp_in x3 6 ∧ Px k 176 m_Wo_has 0 [.ref 101, .int (I 106 ((x3 : Int32).toNatClampNeg))] [] (hp I J (pm_RT pa pb ga)) (fun r h' => h'.1 = 176 ∧ Px (k + 1) 176 m_Wo_writeSchedule 39 [.ref 101, .int x1, .int x2, .int x3, .int (I 106 ((x3 : Int32).toNatClampNeg)), .null, .null] (r.toList ++ []) h' Q)))))) : Px (k + 1) 176 m_Wo_writeSchedule 11 [.ref 101, .int x1, .int x2, .int x3, .null, .null, .null] [] (hp I J (pm_RT pa pb ga)) Q := by
  refine x_l 12 rfl rfl rfl ?_
  refine x_l 13 rfl rfl rfl ?_
  refine z_gf 16 (.int (I 101 8)) rfl ⟨rfl, rfl, rfl⟩ rfl rfl ?_
  refine x_b 19 rfl rfl rfl (fun c => ?_) (fun c => ?_)
  · have h := h.1 c
    exact h
  · have h := h.2 c
    refine x_l 20 rfl rfl rfl ?_
    refine z_k 22 6 rfl (by decide) rfl ?_
    refine x_b 25 rfl rfl rfl (fun c => ?_) (fun c => ?_)
    · have h := h.1 c
      exact h
    · have h := h.2 c
      refine x_l 26 rfl rfl rfl ?_
      refine z_gf 29 (.ref 106) rfl ⟨rfl, rfl, rfl⟩ rfl rfl ?_
      refine x_l 30 rfl rfl rfl ?_
      have h1 := h.1
      have h := h.2
      refine z_il 31 6 rfl ⟨rfl, rfl, rfl⟩ rfl h1 rfl ?_
      refine x_t 33 rfl rfl rfl ?_
      refine x_l 34 rfl rfl rfl ?_
      refine x_l 36 rfl rfl rfl ?_
      exact z_cv (As := [.int (I 106 ((x3 : Int32).toNatClampNeg))]) (rest := []) (b := 101) rfl at_Wo_has rfl rfl (Nat.le_of_ble_eq_true rfl) (Nat.le_of_ble_eq_true rfl) ⟨rfl, rfl, rfl⟩ (by decide) rfl h

theorem bk_Wo_writeSchedule_39 {k : Nat} {pa pb : Nat} {ga : Nat → Nat} {I : pm_II} {J : pm_JJ} {Q : Option Value → pm_H → Prop} {x1 : Int32} {x2 : Int32} {x3 : Int32} {x4 : Int32} {s0 : Int32} (h : ((¬ s0 = 0 → Px k 176 m_Wo_changeAhead 0 [.ref 101, .ref 106, .int x3] [] (hp I J (pm_RT pa pb ga)) (fun r h' => h'.1 = 176 ∧ Px (k + 1) 176 m_Wo_writeSchedule 53 [.ref 101, .int x1, .int x2, .int x3, .int x4, .null, .null] (r.toList ++ [.int x1]) h' Q)) ∧ (¬ (¬ s0 = 0) → Q none (hp I J (pm_RT pa pb ga))))) : Px (k + 1) 176 m_Wo_writeSchedule 39 [.ref 101, .int x1, .int x2, .int x3, .int x4, .null, .null] [.int s0] (hp I J (pm_RT pa pb ga)) Q := by
  refine x_b 42 rfl rfl rfl (fun c => ?_) (fun c => ?_)
  · have h := h.1 c
    refine x_l 44 rfl rfl rfl ?_
    refine x_l 45 rfl rfl rfl ?_
    refine x_l 46 rfl rfl rfl ?_
    refine z_gf 49 (.ref 106) rfl ⟨rfl, rfl, rfl⟩ rfl rfl ?_
    refine x_l 50 rfl rfl rfl ?_
    exact z_cv (As := [.ref 106, .int x3]) (rest := [.int x1]) (b := 101) rfl at_Wo_changeAhead rfl rfl (Nat.le_of_ble_eq_true rfl) (Nat.le_of_ble_eq_true rfl) ⟨rfl, rfl, rfl⟩ (by decide) rfl h
  · have h := h.2 c
    exact x_rv rfl rfl h

theorem bk_Wo_writeSchedule_53 {k : Nat} {pa pb : Nat} {ga : Nat → Nat} {I : pm_II} {J : pm_JJ} {Q : Option Value → pm_H → Prop} {x1 : Int32} {x2 : Int32} {x3 : Int32} {x4 : Int32} {s0 : Int32} {s1 : Int32} (h : Px k 176 m_Wo_isChange 0 [.ref 101, .ref 106, .int x3] [] (hp I J (pm_RT pa pb ga)) (fun r h' => h'.1 = 176 ∧ Px (k + 1) 176 m_Wo_writeSchedule 70 [.ref 101, .int x1, .int x2, .int x3, .int x4, .int (s0 + s1), .null] (r.toList ++ [.int (I 101 13), .ref 101]) h' Q)) : Px (k + 1) 176 m_Wo_writeSchedule 53 [.ref 101, .int x1, .int x2, .int x3, .int x4, .null, .null] [.int s1, .int s0] (hp I J (pm_RT pa pb ga)) Q := by
  refine x_s 54 rfl rfl rfl ?_
  refine x_t 56 rfl rfl rfl ?_
  refine x_l 57 rfl rfl rfl ?_
  refine x_s 58 rfl rfl rfl ?_
  refine z_gf 61 (.int (I 101 13)) rfl ⟨rfl, rfl, rfl⟩ rfl rfl ?_
  refine x_l 62 rfl rfl rfl ?_
  refine x_l 63 rfl rfl rfl ?_
  refine z_gf 66 (.ref 106) rfl ⟨rfl, rfl, rfl⟩ rfl rfl ?_
  refine x_l 67 rfl rfl rfl ?_
  exact z_cv (As := [.ref 106, .int x3]) (rest := [.int (I 101 13), .ref 101]) (b := 101) rfl at_Wo_isChange rfl rfl (Nat.le_of_ble_eq_true rfl) (Nat.le_of_ble_eq_true rfl) ⟨rfl, rfl, rfl⟩ (by decide) rfl h

theorem bk_Wo_writeSchedule_70 {k : Nat} {pa pb : Nat} {ga : Nat → Nat} {I : pm_II} {J : pm_JJ} {Q : Option Value → pm_H → Prop} {x1 : Int32} {x2 : Int32} {x3 : Int32} {x4 : Int32} {x5 : Int32} {s1 : Int32} {s2 : Int32} (h : ((s2 = 0 → Px (k + 1) 176 m_Wo_writeSchedule 78 [.ref 101, .int x1, .int x2, .int x3, .int x4, .int x5, .null] [.int 0, .int s1, .ref 101] (hp I J (pm_RT pa pb ga)) Q) ∧ (¬ (s2 = 0) → Px (k + 1) 176 m_Wo_writeSchedule 78 [.ref 101, .int x1, .int x2, .int x3, .int x4, .int x5, .null] [.int 1, .int s1, .ref 101] (hp I J (pm_RT pa pb ga)) Q))) : Px (k + 1) 176 m_Wo_writeSchedule 70 [.ref 101, .int x1, .int x2, .int x3, .int x4, .int x5, .null] [.int s2, .int s1, .ref 101] (hp I J (pm_RT pa pb ga)) Q := by
  refine x_b 73 rfl rfl rfl (fun c => ?_) (fun c => ?_)
  · have h := h.1 c
    refine z_k 78 0 rfl (by decide) rfl ?_
    exact h
  · have h := h.2 c
    refine z_k 74 1 rfl (by decide) rfl ?_
    refine x_g rfl ?_
    exact h

theorem bk_Wo_writeSchedule_78 {k : Nat} {pa pb : Nat} {ga : Nat → Nat} {I : pm_II} {J : pm_JJ} {Q : Option Value → pm_H → Prop} {x1 : Int32} {x2 : Int32} {x3 : Int32} {x4 : Int32} {x5 : Int32} {s1 : Int32} {s2 : Int32} (h : vp_in x4 6 ∧ Px k 176 m_Jm_max 0 [.int ((x5 + (I 103 ((x4 : Int32).toNatClampNeg))) + (I 101 10)), .int x2] [] (hp (pm_up I 101 13 (s1 + s2)) J (pm_RT pa pb ga)) (fun r h' => h'.1 = 176 ∧ Px (k + 1) 176 m_Wo_writeSchedule 103 [.ref 101, .int (x5 + (I 103 ((x4 : Int32).toNatClampNeg))), .int x2, .int x3, .int x4, .int x5, .null] (r.toList ++ []) h' Q)) : Px (k + 1) 176 m_Wo_writeSchedule 78 [.ref 101, .int x1, .int x2, .int x3, .int x4, .int x5, .null] [.int s2, .int s1, .ref 101] (hp I J (pm_RT pa pb ga)) Q := by
  refine x_s 79 rfl rfl rfl ?_
  refine z_pi 82 rfl (Or.inl rfl) rfl (fun z => by cases z) ⟨rfl, rfl, rfl⟩ rfl ?_
  refine x_l 84 rfl rfl rfl ?_
  refine x_l 85 rfl rfl rfl ?_
  refine z_gf 88 (.ref 103) rfl ⟨rfl, rfl, rfl⟩ rfl rfl ?_
  refine x_l 90 rfl rfl rfl ?_
  have h1 := h.1
  have h := h.2
  refine z_il 91 6 rfl ⟨rfl, rfl, rfl⟩ rfl h1 rfl ?_
  refine x_s 92 rfl rfl rfl ?_
  refine x_t 93 rfl rfl rfl ?_
  refine x_l 94 rfl rfl rfl ?_
  refine x_l 95 rfl rfl rfl ?_
  refine z_gf 98 (.int (I 101 10)) rfl ⟨rfl, rfl, rfl⟩ rfl rfl ?_
  refine x_s 99 rfl rfl rfl ?_
  refine x_l 100 rfl rfl rfl ?_
  exact z_cs (As := [.int ((x5 + (I 103 ((x4 : Int32).toNatClampNeg))) + (I 101 10)), .int x2]) (rest := []) rfl at_Jm_max rfl rfl (Nat.le_of_ble_eq_true rfl) (Nat.le_of_ble_eq_true rfl) rfl h

theorem bk_Wo_writeSchedule_103 {k : Nat} {pa pb : Nat} {ga : Nat → Nat} {I : pm_II} {J : pm_JJ} {Q : Option Value → pm_H → Prop} {x1 : Int32} {x2 : Int32} {x3 : Int32} {x4 : Int32} {x5 : Int32} {s0 : Int32} (h : vp_in x4 6 ∧ vp_in (x4 * (5 : Int32)) 30 ∧ vp_in ((x4 * (5 : Int32)) + (1 : Int32)) 30 ∧ vp_in ((x4 * (5 : Int32)) + (2 : Int32)) 30 ∧ vp_in ((x4 * (5 : Int32)) + (3 : Int32)) 30 ∧ vp_in x4 6 ∧ Px k 176 m_Jm_max 0 [.int 0, .int ((s0 + (I 104 ((x4 : Int32).toNatClampNeg))) - (I 105 ((x4 : Int32).toNatClampNeg)))] [] (hp (pm_up (pm_up (pm_up (pm_up I 109 (((x4 * (5 : Int32)) : Int32).toNatClampNeg) x5) 109 ((((x4 * (5 : Int32)) + (1 : Int32)) : Int32).toNatClampNeg) x1) 109 ((((x4 * (5 : Int32)) + (2 : Int32)) : Int32).toNatClampNeg) s0) 109 ((((x4 * (5 : Int32)) + (3 : Int32)) : Int32).toNatClampNeg) (s0 + (I 104 ((x4 : Int32).toNatClampNeg)))) J (pm_RT pa pb ga)) (fun r h' => h'.1 = 176 ∧ Px (k + 1) 176 m_Wo_writeSchedule 187 [.ref 101, .int x1, .int (s0 + (I 104 ((x4 : Int32).toNatClampNeg))), .int x3, .int x4, .int x5, .int s0] (r.toList ++ [.int ((x4 * (5 : Int32)) + (4 : Int32)), .ref 109]) h' Q)) : Px (k + 1) 176 m_Wo_writeSchedule 103 [.ref 101, .int x1, .int x2, .int x3, .int x4, .int x5, .null] [.int s0] (hp I J (pm_RT pa pb ga)) Q := by
  refine x_t 105 rfl rfl rfl ?_
  refine x_l 107 rfl rfl rfl ?_
  refine x_l 108 rfl rfl rfl ?_
  refine z_gf 111 (.ref 104) rfl ⟨rfl, rfl, rfl⟩ rfl rfl ?_
  refine x_l 113 rfl rfl rfl ?_
  have h1 := h.1
  have h := h.2
  refine z_il 114 6 rfl ⟨rfl, rfl, rfl⟩ rfl h1 rfl ?_
  refine x_s 115 rfl rfl rfl ?_
  refine x_t 116 rfl rfl rfl ?_
  refine x_l 117 rfl rfl rfl ?_
  refine z_gf 120 (.ref 109) rfl ⟨rfl, rfl, rfl⟩ rfl rfl ?_
  refine x_l 122 rfl rfl rfl ?_
  refine z_k 123 5 rfl (by decide) rfl ?_
  refine x_s 124 rfl rfl rfl ?_
  refine x_l 126 rfl rfl rfl ?_
  have h1 := h.1
  have h := h.2
  refine z_is 127 30 rfl ⟨rfl, rfl, rfl⟩ rfl h1 rfl ?_
  refine x_l 128 rfl rfl rfl ?_
  refine z_gf 131 (.ref 109) rfl ⟨rfl, rfl, rfl⟩ rfl rfl ?_
  refine x_l 133 rfl rfl rfl ?_
  refine z_k 134 5 rfl (by decide) rfl ?_
  refine x_s 135 rfl rfl rfl ?_
  refine z_k 136 1 rfl (by decide) rfl ?_
  refine x_s 137 rfl rfl rfl ?_
  refine x_l 138 rfl rfl rfl ?_
  have h1 := h.1
  have h := h.2
  refine z_is 139 30 rfl ⟨rfl, rfl, rfl⟩ rfl h1 rfl ?_
  refine x_l 140 rfl rfl rfl ?_
  refine z_gf 143 (.ref 109) rfl ⟨rfl, rfl, rfl⟩ rfl rfl ?_
  refine x_l 145 rfl rfl rfl ?_
  refine z_k 146 5 rfl (by decide) rfl ?_
  refine x_s 147 rfl rfl rfl ?_
  refine z_k 148 2 rfl (by decide) rfl ?_
  refine x_s 149 rfl rfl rfl ?_
  refine x_l 151 rfl rfl rfl ?_
  have h1 := h.1
  have h := h.2
  refine z_is 152 30 rfl ⟨rfl, rfl, rfl⟩ rfl h1 rfl ?_
  refine x_l 153 rfl rfl rfl ?_
  refine z_gf 156 (.ref 109) rfl ⟨rfl, rfl, rfl⟩ rfl rfl ?_
  refine x_l 158 rfl rfl rfl ?_
  refine z_k 159 5 rfl (by decide) rfl ?_
  refine x_s 160 rfl rfl rfl ?_
  refine z_k 161 3 rfl (by decide) rfl ?_
  refine x_s 162 rfl rfl rfl ?_
  refine x_l 163 rfl rfl rfl ?_
  have h1 := h.1
  have h := h.2
  refine z_is 164 30 rfl ⟨rfl, rfl, rfl⟩ rfl h1 rfl ?_
  refine x_l 165 rfl rfl rfl ?_
  refine z_gf 168 (.ref 109) rfl ⟨rfl, rfl, rfl⟩ rfl rfl ?_
  refine x_l 170 rfl rfl rfl ?_
  refine z_k 171 5 rfl (by decide) rfl ?_
  refine x_s 172 rfl rfl rfl ?_
  refine z_k 173 4 rfl (by decide) rfl ?_
  refine x_s 174 rfl rfl rfl ?_
  refine z_k 175 0 rfl (by decide) rfl ?_
  refine x_l 176 rfl rfl rfl ?_
  refine x_l 177 rfl rfl rfl ?_
  refine z_gf 180 (.ref 105) rfl ⟨rfl, rfl, rfl⟩ rfl rfl ?_
  refine x_l 182 rfl rfl rfl ?_
  have h1 := h.1
  have h := h.2
  refine z_il 183 6 rfl ⟨rfl, rfl, rfl⟩ rfl h1 rfl ?_
  refine x_s 184 rfl rfl rfl ?_
  exact z_cs (As := [.int 0, .int ((s0 + (I 104 ((x4 : Int32).toNatClampNeg))) - (I 105 ((x4 : Int32).toNatClampNeg)))]) (rest := [.int ((x4 * (5 : Int32)) + (4 : Int32)), .ref 109]) rfl at_Jm_max rfl rfl (Nat.le_of_ble_eq_true rfl) (Nat.le_of_ble_eq_true rfl) rfl h

theorem bk_Wo_writeSchedule_187 {k : Nat} {pa pb : Nat} {ga : Nat → Nat} {I : pm_II} {J : pm_JJ} {Q : Option Value → pm_H → Prop} {x1 : Int32} {x2 : Int32} {x3 : Int32} {x4 : Int32} {x5 : Int32} {x6 : Int32} {s1 : Int32} {s2 : Int32} (h : vp_in s1 30 ∧ Px (k + 1) 176 m_Wo_writeSchedule 11 [.ref 101, .int x1, .int x2, .int (x3 + Int32.ofInt 1), .int x4, .int x5, .int x6] [] (hp (pm_up I 109 ((s1 : Int32).toNatClampNeg) s2) J (pm_RT pa pb ga)) Q) : Px (k + 1) 176 m_Wo_writeSchedule 187 [.ref 101, .int x1, .int x2, .int x3, .int x4, .int x5, .int x6] [.int s2, .int s1, .ref 109] (hp I J (pm_RT pa pb ga)) Q := by
  have h1 := h.1
  have h := h.2
  refine z_is 188 30 rfl ⟨rfl, rfl, rfl⟩ rfl h1 rfl ?_
  refine x_t 191 rfl rfl rfl ?_
  refine x_g rfl ?_
  exact h

theorem bk_Wo_writeSchedule_194 {k : Nat} {pa pb : Nat} {ga : Nat → Nat} {I : pm_II} {J : pm_JJ} {Q : Option Value → pm_H → Prop} {x1 : Int32} {x2 : Int32} {x3 : Int32} (h : Q none (hp I J (pm_RT pa pb ga))) : Px (k + 1) 176 m_Wo_writeSchedule 194 [.ref 101, .int x1, .int x2, .int x3, .null, .null, .null] [] (hp I J (pm_RT pa pb ga)) Q := by
  exact x_rv rfl rfl h

theorem bk_Wo_tell_0 {k : Nat} {pa pb : Nat} {ga : Nat → Nat} {I : pm_II} {J : pm_JJ} {Q : Option Value → pm_H → Prop} {x1 : Int32} {x2 : Int32} (h : Px k 176 m_Wo_refresh 0 [.ref 101, .null] [] (hp I J (pm_RT pa pb ga)) (fun r h' => h'.1 = 176 ∧ Px (k + 1) 176 m_Wo_tell 4 [.ref 101, .int x1, .int x2] (r.toList ++ []) h' Q)) : Px (k + 1) 176 m_Wo_tell 0 [.ref 101, .int x1, .int x2] [] (hp I J (pm_RT pa pb ga)) Q := by
  refine x_l 1 rfl rfl rfl ?_
  exact z_cv (As := []) (rest := []) (b := 101) rfl at_Wo_refresh rfl rfl (Nat.le_of_ble_eq_true rfl) (Nat.le_of_ble_eq_true rfl) ⟨rfl, rfl, rfl⟩ (by decide) rfl h

theorem bk_Wo_tell_4 {k : Nat} {pa pb : Nat} {ga : Nat → Nat} {I : pm_II} {J : pm_JJ} {Q : Option Value → pm_H → Prop} {x1 : Int32} {x2 : Int32} (h : Px k 176 m_Wo_has 0 [.ref 101, .int x1] [] (hp I J (pm_RT pa pb ga)) (fun r h' => h'.1 = 176 ∧ Px (k + 1) 176 m_Wo_tell 9 [.ref 101, .int x1, .int x2] (r.toList ++ []) h' Q)) : Px (k + 1) 176 m_Wo_tell 4 [.ref 101, .int x1, .int x2] [] (hp I J (pm_RT pa pb ga)) Q := by
  refine x_l 5 rfl rfl rfl ?_
  refine x_l 6 rfl rfl rfl ?_
  exact z_cv (As := [.int x1]) (rest := []) (b := 101) rfl at_Wo_has rfl rfl (Nat.le_of_ble_eq_true rfl) (Nat.le_of_ble_eq_true rfl) ⟨rfl, rfl, rfl⟩ (by decide) rfl h

theorem bk_Wo_tell_9 {k : Nat} {pa pb : Nat} {ga : Nat → Nat} {I : pm_II} {J : pm_JJ} {Q : Option Value → pm_H → Prop} {x1 : Int32} {x2 : Int32} {s0 : Int32} (h : ((s0 = 0 → Q (some (.int (-1))) (hp I J (pm_RT pa pb ga))) ∧ (¬ (s0 = 0) → ((x2 < 0 → Q (some (.int (-1))) (hp I J (pm_RT pa pb ga))) ∧ (¬ (x2 < 0) → ((5 ≤ x2 → Q (some (.int (-1))) (hp I J (pm_RT pa pb ga))) ∧ (¬ (5 ≤ x2) → vp_in ((x1 * (5 : Int32)) + x2) 30 ∧ Q (some (.int (I 109 ((((x1 * (5 : Int32)) + x2) : Int32).toNatClampNeg)))) (hp I J (pm_RT pa pb ga))))))))) : Px (k + 1) 176 m_Wo_tell 9 [.ref 101, .int x1, .int x2] [.int s0] (hp I J (pm_RT pa pb ga)) Q := by
  refine x_b 12 rfl rfl rfl (fun c => ?_) (fun c => ?_)
  · have h := h.1 c
    refine z_k 35 (-1) rfl (by decide) rfl ?_
    exact x_ri rfl (Or.inl rfl) h
  · have h := h.2 c
    refine x_l 13 rfl rfl rfl ?_
    refine x_b 16 rfl rfl rfl (fun c => ?_) (fun c => ?_)
    · have h := h.1 c
      refine z_k 35 (-1) rfl (by decide) rfl ?_
      exact x_ri rfl (Or.inl rfl) h
    · have h := h.2 c
      refine x_l 17 rfl rfl rfl ?_
      refine z_k 18 5 rfl (by decide) rfl ?_
      refine x_b 21 rfl rfl rfl (fun c => ?_) (fun c => ?_)
      · have h := h.1 c
        refine z_k 35 (-1) rfl (by decide) rfl ?_
        exact x_ri rfl (Or.inl rfl) h
      · have h := h.2 c
        refine x_l 22 rfl rfl rfl ?_
        refine z_gf 25 (.ref 109) rfl ⟨rfl, rfl, rfl⟩ rfl rfl ?_
        refine x_l 26 rfl rfl rfl ?_
        refine z_k 27 5 rfl (by decide) rfl ?_
        refine x_s 28 rfl rfl rfl ?_
        refine x_l 29 rfl rfl rfl ?_
        refine x_s 30 rfl rfl rfl ?_
        have h1 := h.1
        have h := h.2
        refine z_il 31 30 rfl ⟨rfl, rfl, rfl⟩ rfl h1 rfl ?_
        refine x_g rfl ?_
        exact x_ri rfl (Or.inl rfl) h

theorem bk_Wo_lateInAll_0 {k : Nat} {pa pb : Nat} {ga : Nat → Nat} {I : pm_II} {J : pm_JJ} {Q : Option Value → pm_H → Prop} (h : Px k 176 m_Wo_refresh 0 [.ref 101, .null] [] (hp I J (pm_RT pa pb ga)) (fun r h' => h'.1 = 176 ∧ Px (k + 1) 176 m_Wo_lateInAll 4 [.ref 101] (r.toList ++ []) h' Q)) : Px (k + 1) 176 m_Wo_lateInAll 0 [.ref 101] [] (hp I J (pm_RT pa pb ga)) Q := by
  refine x_l 1 rfl rfl rfl ?_
  exact z_cv (As := []) (rest := []) (b := 101) rfl at_Wo_refresh rfl rfl (Nat.le_of_ble_eq_true rfl) (Nat.le_of_ble_eq_true rfl) ⟨rfl, rfl, rfl⟩ (by decide) rfl h

theorem bk_Wo_lateInAll_4 {k : Nat} {pa pb : Nat} {ga : Nat → Nat} {I : pm_II} {J : pm_JJ} {Q : Option Value → pm_H → Prop} (h : Q (some (.int (I 101 11))) (hp I J (pm_RT pa pb ga))) : Px (k + 1) 176 m_Wo_lateInAll 4 [.ref 101] [] (hp I J (pm_RT pa pb ga)) Q := by
  refine x_l 5 rfl rfl rfl ?_
  refine z_gf 8 (.int (I 101 11)) rfl ⟨rfl, rfl, rfl⟩ rfl rfl ?_
  exact x_ri rfl (Or.inl rfl) h

theorem bk_Wo_lastEnd_0 {k : Nat} {pa pb : Nat} {ga : Nat → Nat} {I : pm_II} {J : pm_JJ} {Q : Option Value → pm_H → Prop} (h : Px k 176 m_Wo_refresh 0 [.ref 101, .null] [] (hp I J (pm_RT pa pb ga)) (fun r h' => h'.1 = 176 ∧ Px (k + 1) 176 m_Wo_lastEnd 4 [.ref 101] (r.toList ++ []) h' Q)) : Px (k + 1) 176 m_Wo_lastEnd 0 [.ref 101] [] (hp I J (pm_RT pa pb ga)) Q := by
  refine x_l 1 rfl rfl rfl ?_
  exact z_cv (As := []) (rest := []) (b := 101) rfl at_Wo_refresh rfl rfl (Nat.le_of_ble_eq_true rfl) (Nat.le_of_ble_eq_true rfl) ⟨rfl, rfl, rfl⟩ (by decide) rfl h

theorem bk_Wo_lastEnd_4 {k : Nat} {pa pb : Nat} {ga : Nat → Nat} {I : pm_II} {J : pm_JJ} {Q : Option Value → pm_H → Prop} (h : Q (some (.int (I 101 12))) (hp I J (pm_RT pa pb ga))) : Px (k + 1) 176 m_Wo_lastEnd 4 [.ref 101] [] (hp I J (pm_RT pa pb ga)) Q := by
  refine x_l 5 rfl rfl rfl ?_
  refine z_gf 8 (.int (I 101 12)) rfl ⟨rfl, rfl, rfl⟩ rfl rfl ?_
  exact x_ri rfl (Or.inl rfl) h

theorem bk_Wo_changesOfColour_0 {k : Nat} {pa pb : Nat} {ga : Nat → Nat} {I : pm_II} {J : pm_JJ} {Q : Option Value → pm_H → Prop} (h : Px k 176 m_Wo_refresh 0 [.ref 101, .null] [] (hp I J (pm_RT pa pb ga)) (fun r h' => h'.1 = 176 ∧ Px (k + 1) 176 m_Wo_changesOfColour 4 [.ref 101] (r.toList ++ []) h' Q)) : Px (k + 1) 176 m_Wo_changesOfColour 0 [.ref 101] [] (hp I J (pm_RT pa pb ga)) Q := by
  refine x_l 1 rfl rfl rfl ?_
  exact z_cv (As := []) (rest := []) (b := 101) rfl at_Wo_refresh rfl rfl (Nat.le_of_ble_eq_true rfl) (Nat.le_of_ble_eq_true rfl) ⟨rfl, rfl, rfl⟩ (by decide) rfl h

theorem bk_Wo_changesOfColour_4 {k : Nat} {pa pb : Nat} {ga : Nat → Nat} {I : pm_II} {J : pm_JJ} {Q : Option Value → pm_H → Prop} (h : Q (some (.int (I 101 13))) (hp I J (pm_RT pa pb ga))) : Px (k + 1) 176 m_Wo_changesOfColour 4 [.ref 101] [] (hp I J (pm_RT pa pb ga)) Q := by
  refine x_l 5 rfl rfl rfl ?_
  refine z_gf 8 (.int (I 101 13)) rfl ⟨rfl, rfl, rfl⟩ rfl rfl ?_
  exact x_ri rfl (Or.inl rfl) h

theorem bk_Wo_howMany_0 {k : Nat} {pa pb : Nat} {ga : Nat → Nat} {I : pm_II} {J : pm_JJ} {Q : Option Value → pm_H → Prop} (h : Q (some (.int (I 101 8))) (hp I J (pm_RT pa pb ga))) : Px k 176 m_Wo_howMany 0 [.ref 101] [] (hp I J (pm_RT pa pb ga)) Q := by
  refine x_l 1 rfl rfl rfl ?_
  refine z_gf 4 (.int (I 101 8)) rfl ⟨rfl, rfl, rfl⟩ rfl rfl ?_
  exact x_ri rfl (Or.inl rfl) h
