theorem bk_Pl_takeText_0 {k : Nat} {pa pb : Nat} {ga : Nat → Nat} {I : pm_II} {J : pm_JJ} {Q : Option Value → pm_H → Prop} {x2 : Int32} (h : Px (k + 1) 176 m_Pl_takeText 2 [.ref 36, .ref 17, .int x2, .int 0, .null, .null] [] (hp I J (pm_RT pa pb ga)) Q) : Px (k + 1) 176 m_Pl_takeText 0 [.ref 36, .ref 17, .int x2, .null, .null, .null] [] (hp I J (pm_RT pa pb ga)) Q := by
  refine z_k 1 0 rfl (by decide) rfl ?_
  refine x_t 2 rfl rfl rfl ?_
  exact h

theorem bk_Pl_takeText_2 {k : Nat} {pa pb : Nat} {ga : Nat → Nat} {I : pm_II} {J : pm_JJ} {Q : Option Value → pm_H → Prop} {x2 : Int32} {x3 : Int32} (h : ((64 ≤ x3 → Px (k + 1) 176 m_Pl_takeText 23 [.ref 36, .ref 17, .int x2, .int 0, .null, .null] [] (hp I J (pm_RT pa pb ga)) Q) ∧ (¬ (64 ≤ x3) → vp_in x3 64 ∧ Px (k + 1) 176 m_Pl_takeText 2 [.ref 36, .ref 17, .int x2, .int (x3 + Int32.ofInt 1), .null, .null] [] (hp (pm_up I 38 ((x3 : Int32).toNatClampNeg) 0) J (pm_RT pa pb ga)) Q))) : Px (k + 1) 176 m_Pl_takeText 2 [.ref 36, .ref 17, .int x2, .int x3, .null, .null] [] (hp I J (pm_RT pa pb ga)) Q := by
  refine x_l 3 rfl rfl rfl ?_
  refine z_k 5 64 rfl (by decide) rfl ?_
  refine x_b 8 rfl rfl rfl (fun c => ?_) (fun c => ?_)
  · have h := h.1 c
    refine z_k 22 0 rfl (by decide) rfl ?_
    refine x_t 23 rfl rfl rfl ?_
    exact h
  · have h := h.2 c
    refine x_l 9 rfl rfl rfl ?_
    refine z_gf 12 (.ref 38) rfl ⟨rfl, rfl, rfl⟩ rfl rfl ?_
    refine x_l 13 rfl rfl rfl ?_
    refine z_k 14 0 rfl (by decide) rfl ?_
    have h1 := h.1
    have h := h.2
    refine z_is 15 64 rfl ⟨rfl, rfl, rfl⟩ rfl h1 rfl ?_
    refine x_t 18 rfl rfl rfl ?_
    refine x_g rfl ?_
    exact h

theorem bk_Pl_takeText_23 {k : Nat} {pa pb : Nat} {ga : Nat → Nat} {I : pm_II} {J : pm_JJ} {Q : Option Value → pm_H → Prop} {x2 : Int32} {x3 : Int32} (h : Px k 176 m_Pl_readLine 0 [.ref 36, .ref 17] [] (hp I J (pm_RT pa pb ga)) (fun r h' => h'.1 = 176 ∧ Px (k + 1) 176 m_Pl_takeText 28 [.ref 36, .ref 17, .int x2, .int x3, .null, .null] (r.toList ++ []) h' Q)) : Px (k + 1) 176 m_Pl_takeText 23 [.ref 36, .ref 17, .int x2, .int x3, .null, .null] [] (hp I J (pm_RT pa pb ga)) Q := by
  refine x_l 24 rfl rfl rfl ?_
  refine x_l 25 rfl rfl rfl ?_
  exact z_cv (As := [.ref 17]) (rest := []) (b := 36) rfl at_Pl_readLine rfl rfl (Nat.le_of_ble_eq_true rfl) (Nat.le_of_ble_eq_true rfl) ⟨rfl, rfl, rfl⟩ (by decide) rfl h

theorem bk_Pl_takeText_28 {k : Nat} {pa pb : Nat} {ga : Nat → Nat} {I : pm_II} {J : pm_JJ} {Q : Option Value → pm_H → Prop} {x2 : Int32} {x3 : Int32} (h : ((40 ≤ (x3 + Int32.ofInt 1) → Px (k + 1) 176 m_Pl_takeText 44 [.ref 36, .ref 17, .int x2, .int (x3 + Int32.ofInt 1), .null, .null] [] (hp I J (pm_RT pa pb ga)) Q) ∧ (¬ (40 ≤ (x3 + Int32.ofInt 1)) → Px k 176 m_Ta_hasMore 0 [.ref 17] [] (hp I J (pm_RT pa pb ga)) (fun r h' => h'.1 = 176 ∧ Px (k + 1) 176 m_Pl_takeText 41 [.ref 36, .ref 17, .int x2, .int (x3 + Int32.ofInt 1), .null, .null] (r.toList ++ []) h' Q)))) : Px (k + 1) 176 m_Pl_takeText 28 [.ref 36, .ref 17, .int x2, .int x3, .null, .null] [] (hp I J (pm_RT pa pb ga)) Q := by
  refine x_t 31 rfl rfl rfl ?_
  refine x_l 32 rfl rfl rfl ?_
  refine z_k 34 40 rfl (by decide) rfl ?_
  refine x_b 37 rfl rfl rfl (fun c => ?_) (fun c => ?_)
  · have h := h.1 c
    exact h
  · have h := h.2 c
    refine x_l 38 rfl rfl rfl ?_
    exact z_cv (As := []) (rest := []) (b := 17) rfl at_Ta_hasMore rfl rfl (Nat.le_of_ble_eq_true rfl) (Nat.le_of_ble_eq_true rfl) ⟨rfl, rfl, rfl⟩ (by decide) rfl h

theorem bk_Pl_takeText_41 {k : Nat} {pa pb : Nat} {ga : Nat → Nat} {I : pm_II} {J : pm_JJ} {Q : Option Value → pm_H → Prop} {x2 : Int32} {x3 : Int32} {s0 : Int32} (h : ((¬ s0 = 0 → Px (k + 1) 176 m_Pl_takeText 23 [.ref 36, .ref 17, .int x2, .int x3, .null, .null] [] (hp I J (pm_RT pa pb ga)) Q) ∧ (¬ (¬ s0 = 0) → Px (k + 1) 176 m_Pl_takeText 44 [.ref 36, .ref 17, .int x2, .int x3, .null, .null] [] (hp I J (pm_RT pa pb ga)) Q))) : Px (k + 1) 176 m_Pl_takeText 41 [.ref 36, .ref 17, .int x2, .int x3, .null, .null] [.int s0] (hp I J (pm_RT pa pb ga)) Q := by
  refine x_b 44 rfl rfl rfl (fun c => ?_) (fun c => ?_)
  · have h := h.1 c
    exact h
  · have h := h.2 c
    exact h

theorem bk_Pl_takeText_44 {k : Nat} {pa pb : Nat} {ga : Nat → Nat} {I : pm_II} {J : pm_JJ} {Q : Option Value → pm_H → Prop} {x2 : Int32} {x3 : Int32} (h : Px k 176 m_Ta_finish 0 [.ref 17] [] (hp I J (pm_RT pa pb ga)) (fun r h' => h'.1 = 176 ∧ Px (k + 1) 176 m_Pl_takeText 48 [.ref 36, .ref 17, .int x2, .int x3, .null, .null] (r.toList ++ []) h' Q)) : Px (k + 1) 176 m_Pl_takeText 44 [.ref 36, .ref 17, .int x2, .int x3, .null, .null] [] (hp I J (pm_RT pa pb ga)) Q := by
  refine x_l 45 rfl rfl rfl ?_
  exact z_cv (As := []) (rest := []) (b := 17) rfl at_Ta_finish rfl rfl (Nat.le_of_ble_eq_true rfl) (Nat.le_of_ble_eq_true rfl) ⟨rfl, rfl, rfl⟩ (by decide) rfl h

theorem bk_Pl_takeText_48 {k : Nat} {pa pb : Nat} {ga : Nat → Nat} {I : pm_II} {J : pm_JJ} {Q : Option Value → pm_H → Prop} {x2 : Int32} {x3 : Int32} (h : Px k 176 m_Ta_isRight 0 [.ref 17] [] (hp I J (pm_RT pa pb ga)) (fun r h' => h'.1 = 176 ∧ Px (k + 1) 176 m_Pl_takeText 52 [.ref 36, .ref 17, .int x2, .int x3, .null, .null] (r.toList ++ []) h' Q)) : Px (k + 1) 176 m_Pl_takeText 48 [.ref 36, .ref 17, .int x2, .int x3, .null, .null] [] (hp I J (pm_RT pa pb ga)) Q := by
  refine x_l 49 rfl rfl rfl ?_
  exact z_cv (As := []) (rest := []) (b := 17) rfl at_Ta_isRight rfl rfl (Nat.le_of_ble_eq_true rfl) (Nat.le_of_ble_eq_true rfl) ⟨rfl, rfl, rfl⟩ (by decide) rfl h

theorem bk_Pl_takeText_52 {k : Nat} {pa pb : Nat} {ga : Nat → Nat} {I : pm_II} {J : pm_JJ} {Q : Option Value → pm_H → Prop} {x2 : Int32} {x3 : Int32} {s0 : Int32} (h : ((s0 = 0 → Q (some (.int (-1))) (hp I J (pm_RT pa pb ga))) ∧ (¬ (s0 = 0) → ((x2 < 0 → Q (some (.int (-1))) (hp I J (pm_RT pa pb ga))) ∧ (¬ (x2 < 0) → ((x2 < 32 → Px (k + 1) 176 m_Pl_takeText 73 [.ref 36, .ref 17, .int x2, .int x3, .int 0, .int 0] [] (hp I J (pm_RT pa pb ga)) Q) ∧ (¬ (x2 < 32) → Q (some (.int (-1))) (hp I J (pm_RT pa pb ga))))))))) : Px (k + 1) 176 m_Pl_takeText 52 [.ref 36, .ref 17, .int x2, .int x3, .null, .null] [.int s0] (hp I J (pm_RT pa pb ga)) Q := by
  refine x_b 55 rfl rfl rfl (fun c => ?_) (fun c => ?_)
  · have h := h.1 c
    refine z_k 66 (-1) rfl (by decide) rfl ?_
    exact x_ri rfl (Or.inl rfl) h
  · have h := h.2 c
    refine x_l 56 rfl rfl rfl ?_
    refine x_b 59 rfl rfl rfl (fun c => ?_) (fun c => ?_)
    · have h := h.1 c
      refine z_k 66 (-1) rfl (by decide) rfl ?_
      exact x_ri rfl (Or.inl rfl) h
    · have h := h.2 c
      refine x_l 60 rfl rfl rfl ?_
      refine z_k 62 32 rfl (by decide) rfl ?_
      refine x_b 65 rfl rfl rfl (fun c => ?_) (fun c => ?_)
      · have h := h.1 c
        refine z_k 68 0 rfl (by decide) rfl ?_
        refine x_t 70 rfl rfl rfl ?_
        refine z_k 71 0 rfl (by decide) rfl ?_
        refine x_t 73 rfl rfl rfl ?_
        exact h
      · have h := h.2 c
        refine z_k 66 (-1) rfl (by decide) rfl ?_
        exact x_ri rfl (Or.inl rfl) h

theorem bk_Pl_takeText_73 {k : Nat} {pa pb : Nat} {ga : Nat → Nat} {I : pm_II} {J : pm_JJ} {Q : Option Value → pm_H → Prop} {x2 : Int32} {x3 : Int32} {x4 : Int32} {x5 : Int32} (h : ((64 ≤ x5 → Q (some (.int x4)) (hp I J (pm_RT pa pb ga))) ∧ (¬ (64 ≤ x5) → vp_in x5 64 ∧ vp_in ((x2 * (64 : Int32)) + x5) 2048 ∧ vp_in x5 64 ∧ Px (k + 1) 176 m_Pl_takeText 73 [.ref 36, .ref 17, .int x2, .int x3, .int (x4 + (I 38 ((x5 : Int32).toNatClampNeg))), .int (x5 + Int32.ofInt 1)] [] (hp (pm_up I 37 ((((x2 * (64 : Int32)) + x5) : Int32).toNatClampNeg) (I 38 ((x5 : Int32).toNatClampNeg))) J (pm_RT pa pb ga)) Q))) : Px (k + 1) 176 m_Pl_takeText 73 [.ref 36, .ref 17, .int x2, .int x3, .int x4, .int x5] [] (hp I J (pm_RT pa pb ga)) Q := by
  refine x_l 75 rfl rfl rfl ?_
  refine z_k 77 64 rfl (by decide) rfl ?_
  refine x_b 80 rfl rfl rfl (fun c => ?_) (fun c => ?_)
  · have h := h.1 c
    refine x_l 119 rfl rfl rfl ?_
    exact x_ri rfl (Or.inl rfl) h
  · have h := h.2 c
    refine x_l 81 rfl rfl rfl ?_
    refine z_gf 84 (.ref 37) rfl ⟨rfl, rfl, rfl⟩ rfl rfl ?_
    refine x_l 85 rfl rfl rfl ?_
    refine z_k 87 64 rfl (by decide) rfl ?_
    refine x_s 88 rfl rfl rfl ?_
    refine x_l 90 rfl rfl rfl ?_
    refine x_s 91 rfl rfl rfl ?_
    refine x_l 92 rfl rfl rfl ?_
    refine z_gf 95 (.ref 38) rfl ⟨rfl, rfl, rfl⟩ rfl rfl ?_
    refine x_l 97 rfl rfl rfl ?_
    have h1 := h.1
    have h := h.2
    refine z_il 98 64 rfl ⟨rfl, rfl, rfl⟩ rfl h1 rfl ?_
    have h1 := h.1
    have h := h.2
    refine z_is 99 2048 rfl ⟨rfl, rfl, rfl⟩ rfl h1 rfl ?_
    refine x_l 101 rfl rfl rfl ?_
    refine x_l 102 rfl rfl rfl ?_
    refine z_gf 105 (.ref 38) rfl ⟨rfl, rfl, rfl⟩ rfl rfl ?_
    refine x_l 107 rfl rfl rfl ?_
    have h1 := h.1
    have h := h.2
    refine z_il 108 64 rfl ⟨rfl, rfl, rfl⟩ rfl h1 rfl ?_
    refine x_s 109 rfl rfl rfl ?_
    refine x_t 111 rfl rfl rfl ?_
    refine x_t 114 rfl rfl rfl ?_
    refine x_g rfl ?_
    exact h

theorem bk_Pl_readLine_0 {k : Nat} {pa pb : Nat} {ga : Nat → Nat} {I : pm_II} {J : pm_JJ} {Q : Option Value → pm_H → Prop} (h : Px k 176 m_Ta_readEither 0 [.ref 17, .ref 7, .ref 8, .null] [] (hp I J (pm_RT pa pb ga)) (fun r h' => h'.1 = 176 ∧ Px (k + 1) 176 m_Pl_readLine 8 [.ref 36, .ref 17] (r.toList ++ []) h' Q)) : Px (k + 1) 176 m_Pl_readLine 0 [.ref 36, .ref 17] [] (hp I J (pm_RT pa pb ga)) Q := by
  refine x_l 1 rfl rfl rfl ?_
  refine x_ls 3 rfl (Or.inl rfl) rfl ?_
  refine x_ls 5 rfl (Or.inl rfl) rfl ?_
  exact z_cv (As := [.ref 7, .ref 8]) (rest := []) (b := 17) rfl at_Ta_readEither rfl rfl (Nat.le_of_ble_eq_true rfl) (Nat.le_of_ble_eq_true rfl) ⟨rfl, rfl, rfl⟩ (by decide) rfl h

theorem bk_Pl_readLine_8 {k : Nat} {pa pb : Nat} {ga : Nat → Nat} {I : pm_II} {J : pm_JJ} {Q : Option Value → pm_H → Prop} {s0 : Int32} (h : ((¬ s0 = 1 → Px k 176 m_Pl_readBox 0 [.ref 36, .ref 17, .null, .null, .null, .null, .null] [] (hp I J (pm_RT pa pb ga)) (fun r h' => h'.1 = 176 ∧ Px (k + 1) 176 m_Pl_readLine 25 [.ref 36, .ref 17] (r.toList ++ []) h' Q)) ∧ (¬ (¬ s0 = 1) → Px k 176 m_Pl_readStroke 0 [.ref 36, .ref 17, .null, .null, .null, .null, .null] [] (hp I J (pm_RT pa pb ga)) (fun r h' => h'.1 = 176 ∧ Px (k + 1) 176 m_Pl_readLine 17 [.ref 36, .ref 17] (r.toList ++ []) h' Q)))) : Px (k + 1) 176 m_Pl_readLine 8 [.ref 36, .ref 17] [.int s0] (hp I J (pm_RT pa pb ga)) Q := by
  refine z_k 9 1 rfl (by decide) rfl ?_
  refine x_b 12 rfl rfl rfl (fun c => ?_) (fun c => ?_)
  · have h := h.1 c
    refine x_l 21 rfl rfl rfl ?_
    refine x_l 22 rfl rfl rfl ?_
    exact z_cv (As := [.ref 17]) (rest := []) (b := 36) rfl at_Pl_readBox rfl rfl (Nat.le_of_ble_eq_true rfl) (Nat.le_of_ble_eq_true rfl) ⟨rfl, rfl, rfl⟩ (by decide) rfl h
  · have h := h.2 c
    refine x_l 13 rfl rfl rfl ?_
    refine x_l 14 rfl rfl rfl ?_
    exact z_cv (As := [.ref 17]) (rest := []) (b := 36) rfl at_Pl_readStroke rfl rfl (Nat.le_of_ble_eq_true rfl) (Nat.le_of_ble_eq_true rfl) ⟨rfl, rfl, rfl⟩ (by decide) rfl h

theorem bk_Pl_readLine_17 {k : Nat} {pa pb : Nat} {ga : Nat → Nat} {I : pm_II} {J : pm_JJ} {Q : Option Value → pm_H → Prop} (h : Px (k + 1) 176 m_Pl_readLine 25 [.ref 36, .ref 17] [] (hp I J (pm_RT pa pb ga)) Q) : Px (k + 1) 176 m_Pl_readLine 17 [.ref 36, .ref 17] [] (hp I J (pm_RT pa pb ga)) Q := by
  refine x_g rfl ?_
  exact h

theorem bk_Pl_readLine_25 {k : Nat} {pa pb : Nat} {ga : Nat → Nat} {I : pm_II} {J : pm_JJ} {Q : Option Value → pm_H → Prop} (h : Px k 176 m_Ta_expect 0 [.ref 17, .int 10] [] (hp I J (pm_RT pa pb ga)) (fun r h' => h'.1 = 176 ∧ Px (k + 1) 176 m_Pl_readLine 31 [.ref 36, .ref 17] (r.toList ++ []) h' Q)) : Px (k + 1) 176 m_Pl_readLine 25 [.ref 36, .ref 17] [] (hp I J (pm_RT pa pb ga)) Q := by
  refine x_l 26 rfl rfl rfl ?_
  refine z_k 28 10 rfl (by decide) rfl ?_
  exact z_cv (As := [.int 10]) (rest := []) (b := 17) rfl at_Ta_expect rfl rfl (Nat.le_of_ble_eq_true rfl) (Nat.le_of_ble_eq_true rfl) ⟨rfl, rfl, rfl⟩ (by decide) rfl h

theorem bk_Pl_readLine_31 {k : Nat} {pa pb : Nat} {ga : Nat → Nat} {I : pm_II} {J : pm_JJ} {Q : Option Value → pm_H → Prop} (h : Q none (hp I J (pm_RT pa pb ga))) : Px (k + 1) 176 m_Pl_readLine 31 [.ref 36, .ref 17] [] (hp I J (pm_RT pa pb ga)) Q := by
  exact x_rv rfl rfl h

theorem bk_Pl_readStroke_0 {k : Nat} {pa pb : Nat} {ga : Nat → Nat} {I : pm_II} {J : pm_JJ} {Q : Option Value → pm_H → Prop} (h : Px k 176 m_Ta_readNextNumber 0 [.ref 17, .int 0, .int 7] [] (hp I J (pm_RT pa pb ga)) (fun r h' => h'.1 = 176 ∧ Px (k + 1) 176 m_Pl_readStroke 7 [.ref 36, .ref 17, .null, .null, .null, .null, .null] (r.toList ++ []) h' Q)) : Px (k + 1) 176 m_Pl_readStroke 0 [.ref 36, .ref 17, .null, .null, .null, .null, .null] [] (hp I J (pm_RT pa pb ga)) Q := by
  refine x_l 1 rfl rfl rfl ?_
  refine z_k 2 0 rfl (by decide) rfl ?_
  refine z_k 4 7 rfl (by decide) rfl ?_
  exact z_cv (As := [.int 0, .int 7]) (rest := []) (b := 17) rfl at_Ta_readNextNumber rfl rfl (Nat.le_of_ble_eq_true rfl) (Nat.le_of_ble_eq_true rfl) ⟨rfl, rfl, rfl⟩ (by decide) rfl h

theorem bk_Pl_readStroke_7 {k : Nat} {pa pb : Nat} {ga : Nat → Nat} {I : pm_II} {J : pm_JJ} {Q : Option Value → pm_H → Prop} {s0 : Int32} (h : Px k 176 m_Ta_readNextNumber 0 [.ref 17, .int 0, .int 7] [] (hp I J (pm_RT pa pb ga)) (fun r h' => h'.1 = 176 ∧ Px (k + 1) 176 m_Pl_readStroke 15 [.ref 36, .ref 17, .int s0, .null, .null, .null, .null] (r.toList ++ []) h' Q)) : Px (k + 1) 176 m_Pl_readStroke 7 [.ref 36, .ref 17, .null, .null, .null, .null, .null] [.int s0] (hp I J (pm_RT pa pb ga)) Q := by
  refine x_t 8 rfl rfl rfl ?_
  refine x_l 9 rfl rfl rfl ?_
  refine z_k 10 0 rfl (by decide) rfl ?_
  refine z_k 12 7 rfl (by decide) rfl ?_
  exact z_cv (As := [.int 0, .int 7]) (rest := []) (b := 17) rfl at_Ta_readNextNumber rfl rfl (Nat.le_of_ble_eq_true rfl) (Nat.le_of_ble_eq_true rfl) ⟨rfl, rfl, rfl⟩ (by decide) rfl h

theorem bk_Pl_readStroke_15 {k : Nat} {pa pb : Nat} {ga : Nat → Nat} {I : pm_II} {J : pm_JJ} {Q : Option Value → pm_H → Prop} {x2 : Int32} {s0 : Int32} (h : Px k 176 m_Ta_readNextNumber 0 [.ref 17, .int 0, .int 7] [] (hp I J (pm_RT pa pb ga)) (fun r h' => h'.1 = 176 ∧ Px (k + 1) 176 m_Pl_readStroke 23 [.ref 36, .ref 17, .int x2, .int s0, .null, .null, .null] (r.toList ++ []) h' Q)) : Px (k + 1) 176 m_Pl_readStroke 15 [.ref 36, .ref 17, .int x2, .null, .null, .null, .null] [.int s0] (hp I J (pm_RT pa pb ga)) Q := by
  refine x_t 16 rfl rfl rfl ?_
  refine x_l 17 rfl rfl rfl ?_
  refine z_k 18 0 rfl (by decide) rfl ?_
  refine z_k 20 7 rfl (by decide) rfl ?_
  exact z_cv (As := [.int 0, .int 7]) (rest := []) (b := 17) rfl at_Ta_readNextNumber rfl rfl (Nat.le_of_ble_eq_true rfl) (Nat.le_of_ble_eq_true rfl) ⟨rfl, rfl, rfl⟩ (by decide) rfl h

theorem bk_Pl_readStroke_23 {k : Nat} {pa pb : Nat} {ga : Nat → Nat} {I : pm_II} {J : pm_JJ} {Q : Option Value → pm_H → Prop} {x2 : Int32} {x3 : Int32} {s0 : Int32} (h : Px k 176 m_Ta_readNextNumber 0 [.ref 17, .int 0, .int 7] [] (hp I J (pm_RT pa pb ga)) (fun r h' => h'.1 = 176 ∧ Px (k + 1) 176 m_Pl_readStroke 32 [.ref 36, .ref 17, .int x2, .int x3, .int s0, .null, .null] (r.toList ++ []) h' Q)) : Px (k + 1) 176 m_Pl_readStroke 23 [.ref 36, .ref 17, .int x2, .int x3, .null, .null, .null] [.int s0] (hp I J (pm_RT pa pb ga)) Q := by
  refine x_t 25 rfl rfl rfl ?_
  refine x_l 26 rfl rfl rfl ?_
  refine z_k 27 0 rfl (by decide) rfl ?_
  refine z_k 29 7 rfl (by decide) rfl ?_
  exact z_cv (As := [.int 0, .int 7]) (rest := []) (b := 17) rfl at_Ta_readNextNumber rfl rfl (Nat.le_of_ble_eq_true rfl) (Nat.le_of_ble_eq_true rfl) ⟨rfl, rfl, rfl⟩ (by decide) rfl h

theorem bk_Pl_readStroke_32 {k : Nat} {pa pb : Nat} {ga : Nat → Nat} {I : pm_II} {J : pm_JJ} {Q : Option Value → pm_H → Prop} {x2 : Int32} {x3 : Int32} {x4 : Int32} {s0 : Int32} (h : ((x2 = x4 → Px (k + 1) 176 m_Pl_readStroke 50 [.ref 36, .ref 17, .int x2, .int x3, .int x4, .int s0, .null] [] (hp I J (pm_RT pa pb ga)) Q) ∧ (¬ (x2 = x4) → ((x3 = s0 → Px (k + 1) 176 m_Pl_readStroke 50 [.ref 36, .ref 17, .int x2, .int x3, .int x4, .int s0, .null] [] (hp I J (pm_RT pa pb ga)) Q) ∧ (¬ (x3 = s0) → Px k 176 m_Ta_blameToken 0 [.ref 17] [] (hp I J (pm_RT pa pb ga)) (fun r h' => h'.1 = 176 ∧ Px (k + 1) 176 m_Pl_readStroke 50 [.ref 36, .ref 17, .int x2, .int x3, .int x4, .int s0, .null] (r.toList ++ []) h' Q)))))) : Px (k + 1) 176 m_Pl_readStroke 32 [.ref 36, .ref 17, .int x2, .int x3, .int x4, .null, .null] [.int s0] (hp I J (pm_RT pa pb ga)) Q := by
  refine x_t 34 rfl rfl rfl ?_
  refine x_l 35 rfl rfl rfl ?_
  refine x_l 37 rfl rfl rfl ?_
  refine x_b 40 rfl rfl rfl (fun c => ?_) (fun c => ?_)
  · have h := h.1 c
    exact h
  · have h := h.2 c
    refine x_l 41 rfl rfl rfl ?_
    refine x_l 43 rfl rfl rfl ?_
    refine x_b 46 rfl rfl rfl (fun c => ?_) (fun c => ?_)
    · have h := h.1 c
      exact h
    · have h := h.2 c
      refine x_l 47 rfl rfl rfl ?_
      exact z_cv (As := []) (rest := []) (b := 17) rfl at_Ta_blameToken rfl rfl (Nat.le_of_ble_eq_true rfl) (Nat.le_of_ble_eq_true rfl) ⟨rfl, rfl, rfl⟩ (by decide) rfl h

theorem bk_Pl_readStroke_50 {k : Nat} {pa pb : Nat} {ga : Nat → Nat} {I : pm_II} {J : pm_JJ} {Q : Option Value → pm_H → Prop} {x2 : Int32} {x3 : Int32} {x4 : Int32} {x5 : Int32} (h : Px k 176 m_Ta_readNextNumber 0 [.ref 17, .int 0, .int 16] [] (hp I J (pm_RT pa pb ga)) (fun r h' => h'.1 = 176 ∧ Px (k + 1) 176 m_Pl_readStroke 57 [.ref 36, .ref 17, .int x2, .int x3, .int x4, .int x5, .null] (r.toList ++ []) h' Q)) : Px (k + 1) 176 m_Pl_readStroke 50 [.ref 36, .ref 17, .int x2, .int x3, .int x4, .int x5, .null] [] (hp I J (pm_RT pa pb ga)) Q := by
  refine x_l 51 rfl rfl rfl ?_
  refine z_k 52 0 rfl (by decide) rfl ?_
  refine z_k 54 16 rfl (by decide) rfl ?_
  exact z_cv (As := [.int 0, .int 16]) (rest := []) (b := 17) rfl at_Ta_readNextNumber rfl rfl (Nat.le_of_ble_eq_true rfl) (Nat.le_of_ble_eq_true rfl) ⟨rfl, rfl, rfl⟩ (by decide) rfl h

theorem bk_Pl_readStroke_57 {k : Nat} {pa pb : Nat} {ga : Nat → Nat} {I : pm_II} {J : pm_JJ} {Q : Option Value → pm_H → Prop} {x2 : Int32} {x3 : Int32} {x4 : Int32} {x5 : Int32} {s0 : Int32} (h : Px k 176 m_Ta_isRight 0 [.ref 17] [] (hp I J (pm_RT pa pb ga)) (fun r h' => h'.1 = 176 ∧ Px (k + 1) 176 m_Pl_readStroke 63 [.ref 36, .ref 17, .int x2, .int x3, .int x4, .int x5, .int s0] (r.toList ++ []) h' Q)) : Px (k + 1) 176 m_Pl_readStroke 57 [.ref 36, .ref 17, .int x2, .int x3, .int x4, .int x5, .null] [.int s0] (hp I J (pm_RT pa pb ga)) Q := by
  refine x_t 59 rfl rfl rfl ?_
  refine x_l 60 rfl rfl rfl ?_
  exact z_cv (As := []) (rest := []) (b := 17) rfl at_Ta_isRight rfl rfl (Nat.le_of_ble_eq_true rfl) (Nat.le_of_ble_eq_true rfl) ⟨rfl, rfl, rfl⟩ (by decide) rfl h

theorem bk_Pl_readStroke_63 {k : Nat} {pa pb : Nat} {ga : Nat → Nat} {I : pm_II} {J : pm_JJ} {Q : Option Value → pm_H → Prop} {x2 : Int32} {x3 : Int32} {x4 : Int32} {x5 : Int32} {x6 : Int32} {s0 : Int32} (h : ((s0 = 0 → Px (k + 1) 176 m_Pl_readStroke 96 [.ref 36, .ref 17, .int x2, .int x3, .int x4, .int x5, .int x6] [] (hp I J (pm_RT pa pb ga)) Q) ∧ (¬ (s0 = 0) → Px k 176 m_Jm_min_II 0 [.int x2, .int x4] [] (hp I J (pm_RT pa pb ga)) (fun r h' => h'.1 = 176 ∧ Px (k + 1) 176 m_Pl_readStroke 73 [.ref 36, .ref 17, .int x2, .int x3, .int x4, .int x5, .int x6] (r.toList ++ [.ref 36]) h' Q)))) : Px (k + 1) 176 m_Pl_readStroke 63 [.ref 36, .ref 17, .int x2, .int x3, .int x4, .int x5, .int x6] [.int s0] (hp I J (pm_RT pa pb ga)) Q := by
  refine x_b 66 rfl rfl rfl (fun c => ?_) (fun c => ?_)
  · have h := h.1 c
    exact h
  · have h := h.2 c
    refine x_l 67 rfl rfl rfl ?_
    refine x_l 68 rfl rfl rfl ?_
    refine x_l 70 rfl rfl rfl ?_
    exact z_cs (As := [.int x2, .int x4]) (rest := [.ref 36]) rfl at_Jm_min_II rfl rfl (Nat.le_of_ble_eq_true rfl) (Nat.le_of_ble_eq_true rfl) rfl h

theorem bk_Pl_readStroke_73 {k : Nat} {pa pb : Nat} {ga : Nat → Nat} {I : pm_II} {J : pm_JJ} {Q : Option Value → pm_H → Prop} {x2 : Int32} {x3 : Int32} {x4 : Int32} {x5 : Int32} {x6 : Int32} {s1 : Int32} (h : Px k 176 m_Jm_min_II 0 [.int x3, .int x5] [] (hp I J (pm_RT pa pb ga)) (fun r h' => h'.1 = 176 ∧ Px (k + 1) 176 m_Pl_readStroke 79 [.ref 36, .ref 17, .int x2, .int x3, .int x4, .int x5, .int x6] (r.toList ++ [.int s1, .ref 36]) h' Q)) : Px (k + 1) 176 m_Pl_readStroke 73 [.ref 36, .ref 17, .int x2, .int x3, .int x4, .int x5, .int x6] [.int s1, .ref 36] (hp I J (pm_RT pa pb ga)) Q := by
  refine x_l 74 rfl rfl rfl ?_
  refine x_l 76 rfl rfl rfl ?_
  exact z_cs (As := [.int x3, .int x5]) (rest := [.int s1, .ref 36]) rfl at_Jm_min_II rfl rfl (Nat.le_of_ble_eq_true rfl) (Nat.le_of_ble_eq_true rfl) rfl h

theorem bk_Pl_readStroke_79 {k : Nat} {pa pb : Nat} {ga : Nat → Nat} {I : pm_II} {J : pm_JJ} {Q : Option Value → pm_H → Prop} {x2 : Int32} {x3 : Int32} {x4 : Int32} {x5 : Int32} {x6 : Int32} {s1 : Int32} {s2 : Int32} (h : Px k 176 m_Jm_max 0 [.int x2, .int x4] [] (hp I J (pm_RT pa pb ga)) (fun r h' => h'.1 = 176 ∧ Px (k + 1) 176 m_Pl_readStroke 85 [.ref 36, .ref 17, .int x2, .int x3, .int x4, .int x5, .int x6] (r.toList ++ [.int s2, .int s1, .ref 36]) h' Q)) : Px (k + 1) 176 m_Pl_readStroke 79 [.ref 36, .ref 17, .int x2, .int x3, .int x4, .int x5, .int x6] [.int s2, .int s1, .ref 36] (hp I J (pm_RT pa pb ga)) Q := by
  refine x_l 80 rfl rfl rfl ?_
  refine x_l 82 rfl rfl rfl ?_
  exact z_cs (As := [.int x2, .int x4]) (rest := [.int s2, .int s1, .ref 36]) rfl at_Jm_max rfl rfl (Nat.le_of_ble_eq_true rfl) (Nat.le_of_ble_eq_true rfl) rfl h

theorem bk_Pl_readStroke_85 {k : Nat} {pa pb : Nat} {ga : Nat → Nat} {I : pm_II} {J : pm_JJ} {Q : Option Value → pm_H → Prop} {x2 : Int32} {x3 : Int32} {x4 : Int32} {x5 : Int32} {x6 : Int32} {s1 : Int32} {s2 : Int32} {s3 : Int32} (h : Px k 176 m_Jm_max 0 [.int x3, .int x5] [] (hp I J (pm_RT pa pb ga)) (fun r h' => h'.1 = 176 ∧ Px (k + 1) 176 m_Pl_readStroke 91 [.ref 36, .ref 17, .int x2, .int x3, .int x4, .int x5, .int x6] (r.toList ++ [.int s3, .int s2, .int s1, .ref 36]) h' Q)) : Px (k + 1) 176 m_Pl_readStroke 85 [.ref 36, .ref 17, .int x2, .int x3, .int x4, .int x5, .int x6] [.int s3, .int s2, .int s1, .ref 36] (hp I J (pm_RT pa pb ga)) Q := by
  refine x_l 86 rfl rfl rfl ?_
  refine x_l 88 rfl rfl rfl ?_
  exact z_cs (As := [.int x3, .int x5]) (rest := [.int s3, .int s2, .int s1, .ref 36]) rfl at_Jm_max rfl rfl (Nat.le_of_ble_eq_true rfl) (Nat.le_of_ble_eq_true rfl) rfl h

theorem bk_Pl_readStroke_91 {k : Nat} {pa pb : Nat} {ga : Nat → Nat} {I : pm_II} {J : pm_JJ} {Q : Option Value → pm_H → Prop} {x2 : Int32} {x3 : Int32} {x4 : Int32} {x5 : Int32} {x6 : Int32} {s1 : Int32} {s2 : Int32} {s3 : Int32} {s4 : Int32} (h : Px k 176 m_Pl_paint 0 [.ref 36, .int s1, .int s2, .int s3, .int s4, .int x6, .null, .null] [] (hp I J (pm_RT pa pb ga)) (fun r h' => h'.1 = 176 ∧ Px (k + 1) 176 m_Pl_readStroke 96 [.ref 36, .ref 17, .int x2, .int x3, .int x4, .int x5, .int x6] (r.toList ++ []) h' Q)) : Px (k + 1) 176 m_Pl_readStroke 91 [.ref 36, .ref 17, .int x2, .int x3, .int x4, .int x5, .int x6] [.int s4, .int s3, .int s2, .int s1, .ref 36] (hp I J (pm_RT pa pb ga)) Q := by
  refine x_l 93 rfl rfl rfl ?_
  exact z_cv (As := [.int s1, .int s2, .int s3, .int s4, .int x6]) (rest := []) (b := 36) rfl at_Pl_paint rfl rfl (Nat.le_of_ble_eq_true rfl) (Nat.le_of_ble_eq_true rfl) ⟨rfl, rfl, rfl⟩ (by decide) rfl h

theorem bk_Pl_readStroke_96 {k : Nat} {pa pb : Nat} {ga : Nat → Nat} {I : pm_II} {J : pm_JJ} {Q : Option Value → pm_H → Prop} {x2 : Int32} {x3 : Int32} {x4 : Int32} {x5 : Int32} {x6 : Int32} (h : Q none (hp I J (pm_RT pa pb ga))) : Px (k + 1) 176 m_Pl_readStroke 96 [.ref 36, .ref 17, .int x2, .int x3, .int x4, .int x5, .int x6] [] (hp I J (pm_RT pa pb ga)) Q := by
  exact x_rv rfl rfl h

theorem bk_Pl_paint_0 {k : Nat} {pa pb : Nat} {ga : Nat → Nat} {I : pm_II} {J : pm_JJ} {Q : Option Value → pm_H → Prop} {x1 : Int32} {x2 : Int32} {x3 : Int32} {x4 : Int32} {x5 : Int32} (h : Px k 176 m_Jm_max 0 [.int 0, .int x2] [] (hp I J (pm_RT pa pb ga)) (fun r h' => h'.1 = 176 ∧ Px (k + 1) 176 m_Pl_paint 5 [.ref 36, .int x1, .int x2, .int x3, .int x4, .int x5, .null, .null] (r.toList ++ []) h' Q)) : Px (k + 1) 176 m_Pl_paint 0 [.ref 36, .int x1, .int x2, .int x3, .int x4, .int x5, .null, .null] [] (hp I J (pm_RT pa pb ga)) Q := by
  refine z_k 1 0 rfl (by decide) rfl ?_
  refine x_l 2 rfl rfl rfl ?_
  exact z_cs (As := [.int 0, .int x2]) (rest := []) rfl at_Jm_max rfl rfl (Nat.le_of_ble_eq_true rfl) (Nat.le_of_ble_eq_true rfl) rfl h

theorem bk_Pl_paint_5 {k : Nat} {pa pb : Nat} {ga : Nat → Nat} {I : pm_II} {J : pm_JJ} {Q : Option Value → pm_H → Prop} {x1 : Int32} {x2 : Int32} {x3 : Int32} {x4 : Int32} {x5 : Int32} {s0 : Int32} (h : Px (k + 1) 176 m_Pl_paint 7 [.ref 36, .int x1, .int x2, .int x3, .int x4, .int x5, .int s0, .null] [] (hp I J (pm_RT pa pb ga)) Q) : Px (k + 1) 176 m_Pl_paint 5 [.ref 36, .int x1, .int x2, .int x3, .int x4, .int x5, .null, .null] [.int s0] (hp I J (pm_RT pa pb ga)) Q := by
  refine x_t 7 rfl rfl rfl ?_
  exact h

theorem bk_Pl_paint_7 {k : Nat} {pa pb : Nat} {ga : Nat → Nat} {I : pm_II} {J : pm_JJ} {Q : Option Value → pm_H → Prop} {x1 : Int32} {x2 : Int32} {x3 : Int32} {x4 : Int32} {x5 : Int32} {x6 : Int32} (h : ((x4 < x6 → Px (k + 1) 176 m_Pl_paint 68 [.ref 36, .int x1, .int x2, .int x3, .int x4, .int x5, .int x6, .null] [] (hp I J (pm_RT pa pb ga)) Q) ∧ (¬ (x4 < x6) → ((8 ≤ x6 → Px (k + 1) 176 m_Pl_paint 68 [.ref 36, .int x1, .int x2, .int x3, .int x4, .int x5, .int x6, .null] [] (hp I J (pm_RT pa pb ga)) Q) ∧ (¬ (8 ≤ x6) → Px k 176 m_Jm_max 0 [.int 0, .int x1] [] (hp I J (pm_RT pa pb ga)) (fun r h' => h'.1 = 176 ∧ Px (k + 1) 176 m_Pl_paint 26 [.ref 36, .int x1, .int x2, .int x3, .int x4, .int x5, .int x6, .null] (r.toList ++ []) h' Q)))))) : Px (k + 1) 176 m_Pl_paint 7 [.ref 36, .int x1, .int x2, .int x3, .int x4, .int x5, .int x6, .null] [] (hp I J (pm_RT pa pb ga)) Q := by
  refine x_l 9 rfl rfl rfl ?_
  refine x_l 11 rfl rfl rfl ?_
  refine x_b 14 rfl rfl rfl (fun c => ?_) (fun c => ?_)
  · have h := h.1 c
    exact h
  · have h := h.2 c
    refine x_l 16 rfl rfl rfl ?_
    refine z_k 18 8 rfl (by decide) rfl ?_
    refine x_b 21 rfl rfl rfl (fun c => ?_) (fun c => ?_)
    · have h := h.1 c
      exact h
    · have h := h.2 c
      refine z_k 22 0 rfl (by decide) rfl ?_
      refine x_l 23 rfl rfl rfl ?_
      exact z_cs (As := [.int 0, .int x1]) (rest := []) rfl at_Jm_max rfl rfl (Nat.le_of_ble_eq_true rfl) (Nat.le_of_ble_eq_true rfl) rfl h

theorem bk_Pl_paint_26 {k : Nat} {pa pb : Nat} {ga : Nat → Nat} {I : pm_II} {J : pm_JJ} {Q : Option Value → pm_H → Prop} {x1 : Int32} {x2 : Int32} {x3 : Int32} {x4 : Int32} {x5 : Int32} {x6 : Int32} {s0 : Int32} (h : Px (k + 1) 176 m_Pl_paint 28 [.ref 36, .int x1, .int x2, .int x3, .int x4, .int x5, .int x6, .int s0] [] (hp I J (pm_RT pa pb ga)) Q) : Px (k + 1) 176 m_Pl_paint 26 [.ref 36, .int x1, .int x2, .int x3, .int x4, .int x5, .int x6, .null] [.int s0] (hp I J (pm_RT pa pb ga)) Q := by
  refine x_t 28 rfl rfl rfl ?_
  exact h

theorem bk_Pl_paint_28 {k : Nat} {pa pb : Nat} {ga : Nat → Nat} {I : pm_II} {J : pm_JJ} {Q : Option Value → pm_H → Prop} {x1 : Int32} {x2 : Int32} {x3 : Int32} {x4 : Int32} {x5 : Int32} {x6 : Int32} {x7 : Int32} (h : ((x3 < x7 → Px (k + 1) 176 m_Pl_paint 62 [.ref 36, .int x1, .int x2, .int x3, .int x4, .int x5, .int x6, .int x7] [] (hp I J (pm_RT pa pb ga)) Q) ∧ (¬ (x3 < x7) → ((8 ≤ x7 → Px (k + 1) 176 m_Pl_paint 62 [.ref 36, .int x1, .int x2, .int x3, .int x4, .int x5, .int x6, .int x7] [] (hp I J (pm_RT pa pb ga)) Q) ∧ (¬ (8 ≤ x7) → vp_in ((x6 * (8 : Int32)) + x7) 64 ∧ Px (k + 1) 176 m_Pl_paint 28 [.ref 36, .int x1, .int x2, .int x3, .int x4, .int x5, .int x6, .int (x7 + Int32.ofInt 1)] [] (hp (pm_up I 38 ((((x6 * (8 : Int32)) + x7) : Int32).toNatClampNeg) x5) J (pm_RT pa pb ga)) Q))))) : Px (k + 1) 176 m_Pl_paint 28 [.ref 36, .int x1, .int x2, .int x3, .int x4, .int x5, .int x6, .int x7] [] (hp I J (pm_RT pa pb ga)) Q := by
  refine x_l 30 rfl rfl rfl ?_
  refine x_l 31 rfl rfl rfl ?_
  refine x_b 34 rfl rfl rfl (fun c => ?_) (fun c => ?_)
  · have h := h.1 c
    exact h
  · have h := h.2 c
    refine x_l 36 rfl rfl rfl ?_
    refine z_k 38 8 rfl (by decide) rfl ?_
    refine x_b 41 rfl rfl rfl (fun c => ?_) (fun c => ?_)
    · have h := h.1 c
      exact h
    · have h := h.2 c
      refine x_l 42 rfl rfl rfl ?_
      refine z_gf 45 (.ref 38) rfl ⟨rfl, rfl, rfl⟩ rfl rfl ?_
      refine x_l 47 rfl rfl rfl ?_
      refine z_k 49 8 rfl (by decide) rfl ?_
      refine x_s 50 rfl rfl rfl ?_
      refine x_l 52 rfl rfl rfl ?_
      refine x_s 53 rfl rfl rfl ?_
      refine x_l 55 rfl rfl rfl ?_
      have h1 := h.1
      have h := h.2
      refine z_is 56 64 rfl ⟨rfl, rfl, rfl⟩ rfl h1 rfl ?_
      refine x_t 59 rfl rfl rfl ?_
      refine x_g rfl ?_
      exact h

theorem bk_Pl_paint_62 {k : Nat} {pa pb : Nat} {ga : Nat → Nat} {I : pm_II} {J : pm_JJ} {Q : Option Value → pm_H → Prop} {x1 : Int32} {x2 : Int32} {x3 : Int32} {x4 : Int32} {x5 : Int32} {x6 : Int32} {x7 : Int32} (h : Px (k + 1) 176 m_Pl_paint 7 [.ref 36, .int x1, .int x2, .int x3, .int x4, .int x5, .int (x6 + Int32.ofInt 1), .int x7] [] (hp I J (pm_RT pa pb ga)) Q) : Px (k + 1) 176 m_Pl_paint 62 [.ref 36, .int x1, .int x2, .int x3, .int x4, .int x5, .int x6, .int x7] [] (hp I J (pm_RT pa pb ga)) Q := by
  refine x_t 65 rfl rfl rfl ?_
  refine x_g rfl ?_
  exact h

theorem bk_Pl_paint_68 {k : Nat} {pa pb : Nat} {ga : Nat → Nat} {I : pm_II} {J : pm_JJ} {Q : Option Value → pm_H → Prop} {x1 : Int32} {x2 : Int32} {x3 : Int32} {x4 : Int32} {x5 : Int32} {x6 : Int32} (h : Q none (hp I J (pm_RT pa pb ga))) : Px (k + 1) 176 m_Pl_paint 68 [.ref 36, .int x1, .int x2, .int x3, .int x4, .int x5, .int x6, .null] [] (hp I J (pm_RT pa pb ga)) Q := by
  exact x_rv rfl rfl h

theorem bk_Pl_readBox_0 {k : Nat} {pa pb : Nat} {ga : Nat → Nat} {I : pm_II} {J : pm_JJ} {Q : Option Value → pm_H → Prop} (h : Px k 176 m_Ta_readNextNumber 0 [.ref 17, .int 0, .int 7] [] (hp I J (pm_RT pa pb ga)) (fun r h' => h'.1 = 176 ∧ Px (k + 1) 176 m_Pl_readBox 7 [.ref 36, .ref 17, .null, .null, .null, .null, .null] (r.toList ++ []) h' Q)) : Px (k + 1) 176 m_Pl_readBox 0 [.ref 36, .ref 17, .null, .null, .null, .null, .null] [] (hp I J (pm_RT pa pb ga)) Q := by
  refine x_l 1 rfl rfl rfl ?_
  refine z_k 2 0 rfl (by decide) rfl ?_
  refine z_k 4 7 rfl (by decide) rfl ?_
  exact z_cv (As := [.int 0, .int 7]) (rest := []) (b := 17) rfl at_Ta_readNextNumber rfl rfl (Nat.le_of_ble_eq_true rfl) (Nat.le_of_ble_eq_true rfl) ⟨rfl, rfl, rfl⟩ (by decide) rfl h

theorem bk_Pl_readBox_7 {k : Nat} {pa pb : Nat} {ga : Nat → Nat} {I : pm_II} {J : pm_JJ} {Q : Option Value → pm_H → Prop} {s0 : Int32} (h : Px k 176 m_Ta_readNextNumber 0 [.ref 17, .int 0, .int 7] [] (hp I J (pm_RT pa pb ga)) (fun r h' => h'.1 = 176 ∧ Px (k + 1) 176 m_Pl_readBox 15 [.ref 36, .ref 17, .int s0, .null, .null, .null, .null] (r.toList ++ []) h' Q)) : Px (k + 1) 176 m_Pl_readBox 7 [.ref 36, .ref 17, .null, .null, .null, .null, .null] [.int s0] (hp I J (pm_RT pa pb ga)) Q := by
  refine x_t 8 rfl rfl rfl ?_
  refine x_l 9 rfl rfl rfl ?_
  refine z_k 10 0 rfl (by decide) rfl ?_
  refine z_k 12 7 rfl (by decide) rfl ?_
  exact z_cv (As := [.int 0, .int 7]) (rest := []) (b := 17) rfl at_Ta_readNextNumber rfl rfl (Nat.le_of_ble_eq_true rfl) (Nat.le_of_ble_eq_true rfl) ⟨rfl, rfl, rfl⟩ (by decide) rfl h

theorem bk_Pl_readBox_15 {k : Nat} {pa pb : Nat} {ga : Nat → Nat} {I : pm_II} {J : pm_JJ} {Q : Option Value → pm_H → Prop} {x2 : Int32} {s0 : Int32} (h : Px k 176 m_Ta_readNextNumber 0 [.ref 17, .int 1, .int 8] [] (hp I J (pm_RT pa pb ga)) (fun r h' => h'.1 = 176 ∧ Px (k + 1) 176 m_Pl_readBox 23 [.ref 36, .ref 17, .int x2, .int s0, .null, .null, .null] (r.toList ++ []) h' Q)) : Px (k + 1) 176 m_Pl_readBox 15 [.ref 36, .ref 17, .int x2, .null, .null, .null, .null] [.int s0] (hp I J (pm_RT pa pb ga)) Q := by
  refine x_t 16 rfl rfl rfl ?_
  refine x_l 17 rfl rfl rfl ?_
  refine z_k 18 1 rfl (by decide) rfl ?_
  refine z_k 20 8 rfl (by decide) rfl ?_
  exact z_cv (As := [.int 1, .int 8]) (rest := []) (b := 17) rfl at_Ta_readNextNumber rfl rfl (Nat.le_of_ble_eq_true rfl) (Nat.le_of_ble_eq_true rfl) ⟨rfl, rfl, rfl⟩ (by decide) rfl h

theorem bk_Pl_readBox_23 {k : Nat} {pa pb : Nat} {ga : Nat → Nat} {I : pm_II} {J : pm_JJ} {Q : Option Value → pm_H → Prop} {x2 : Int32} {x3 : Int32} {s0 : Int32} (h : Px k 176 m_Ta_readNextNumber 0 [.ref 17, .int 1, .int 8] [] (hp I J (pm_RT pa pb ga)) (fun r h' => h'.1 = 176 ∧ Px (k + 1) 176 m_Pl_readBox 32 [.ref 36, .ref 17, .int x2, .int x3, .int s0, .null, .null] (r.toList ++ []) h' Q)) : Px (k + 1) 176 m_Pl_readBox 23 [.ref 36, .ref 17, .int x2, .int x3, .null, .null, .null] [.int s0] (hp I J (pm_RT pa pb ga)) Q := by
  refine x_t 25 rfl rfl rfl ?_
  refine x_l 26 rfl rfl rfl ?_
  refine z_k 27 1 rfl (by decide) rfl ?_
  refine z_k 29 8 rfl (by decide) rfl ?_
  exact z_cv (As := [.int 1, .int 8]) (rest := []) (b := 17) rfl at_Ta_readNextNumber rfl rfl (Nat.le_of_ble_eq_true rfl) (Nat.le_of_ble_eq_true rfl) ⟨rfl, rfl, rfl⟩ (by decide) rfl h

theorem bk_Pl_readBox_32 {k : Nat} {pa pb : Nat} {ga : Nat → Nat} {I : pm_II} {J : pm_JJ} {Q : Option Value → pm_H → Prop} {x2 : Int32} {x3 : Int32} {x4 : Int32} {s0 : Int32} (h : Px k 176 m_Ta_readNextNumber 0 [.ref 17, .int 0, .int 16] [] (hp I J (pm_RT pa pb ga)) (fun r h' => h'.1 = 176 ∧ Px (k + 1) 176 m_Pl_readBox 41 [.ref 36, .ref 17, .int x2, .int x3, .int x4, .int s0, .null] (r.toList ++ []) h' Q)) : Px (k + 1) 176 m_Pl_readBox 32 [.ref 36, .ref 17, .int x2, .int x3, .int x4, .null, .null] [.int s0] (hp I J (pm_RT pa pb ga)) Q := by
  refine x_t 34 rfl rfl rfl ?_
  refine x_l 35 rfl rfl rfl ?_
  refine z_k 36 0 rfl (by decide) rfl ?_
  refine z_k 38 16 rfl (by decide) rfl ?_
  exact z_cv (As := [.int 0, .int 16]) (rest := []) (b := 17) rfl at_Ta_readNextNumber rfl rfl (Nat.le_of_ble_eq_true rfl) (Nat.le_of_ble_eq_true rfl) ⟨rfl, rfl, rfl⟩ (by decide) rfl h

theorem bk_Pl_readBox_41 {k : Nat} {pa pb : Nat} {ga : Nat → Nat} {I : pm_II} {J : pm_JJ} {Q : Option Value → pm_H → Prop} {x2 : Int32} {x3 : Int32} {x4 : Int32} {x5 : Int32} {s0 : Int32} (h : Px k 176 m_Ta_isRight 0 [.ref 17] [] (hp I J (pm_RT pa pb ga)) (fun r h' => h'.1 = 176 ∧ Px (k + 1) 176 m_Pl_readBox 47 [.ref 36, .ref 17, .int x2, .int x3, .int x4, .int x5, .int s0] (r.toList ++ []) h' Q)) : Px (k + 1) 176 m_Pl_readBox 41 [.ref 36, .ref 17, .int x2, .int x3, .int x4, .int x5, .null] [.int s0] (hp I J (pm_RT pa pb ga)) Q := by
  refine x_t 43 rfl rfl rfl ?_
  refine x_l 44 rfl rfl rfl ?_
  exact z_cv (As := []) (rest := []) (b := 17) rfl at_Ta_isRight rfl rfl (Nat.le_of_ble_eq_true rfl) (Nat.le_of_ble_eq_true rfl) ⟨rfl, rfl, rfl⟩ (by decide) rfl h

theorem bk_Pl_readBox_47 {k : Nat} {pa pb : Nat} {ga : Nat → Nat} {I : pm_II} {J : pm_JJ} {Q : Option Value → pm_H → Prop} {x2 : Int32} {x3 : Int32} {x4 : Int32} {x5 : Int32} {x6 : Int32} {s0 : Int32} (h : ((s0 = 0 → Px (k + 1) 176 m_Pl_readBox 70 [.ref 36, .ref 17, .int x2, .int x3, .int x4, .int x5, .int x6] [] (hp I J (pm_RT pa pb ga)) Q) ∧ (¬ (s0 = 0) → Px k 176 m_Pl_paint 0 [.ref 36, .int x2, .int x3, .int ((x2 + x4) - (1 : Int32)), .int ((x3 + x5) - (1 : Int32)), .int x6, .null, .null] [] (hp I J (pm_RT pa pb ga)) (fun r h' => h'.1 = 176 ∧ Px (k + 1) 176 m_Pl_readBox 70 [.ref 36, .ref 17, .int x2, .int x3, .int x4, .int x5, .int x6] (r.toList ++ []) h' Q)))) : Px (k + 1) 176 m_Pl_readBox 47 [.ref 36, .ref 17, .int x2, .int x3, .int x4, .int x5, .int x6] [.int s0] (hp I J (pm_RT pa pb ga)) Q := by
  refine x_b 50 rfl rfl rfl (fun c => ?_) (fun c => ?_)
  · have h := h.1 c
    exact h
  · have h := h.2 c
    refine x_l 51 rfl rfl rfl ?_
    refine x_l 52 rfl rfl rfl ?_
    refine x_l 53 rfl rfl rfl ?_
    refine x_l 54 rfl rfl rfl ?_
    refine x_l 56 rfl rfl rfl ?_
    refine x_s 57 rfl rfl rfl ?_
    refine z_k 58 1 rfl (by decide) rfl ?_
    refine x_s 59 rfl rfl rfl ?_
    refine x_l 60 rfl rfl rfl ?_
    refine x_l 62 rfl rfl rfl ?_
    refine x_s 63 rfl rfl rfl ?_
    refine z_k 64 1 rfl (by decide) rfl ?_
    refine x_s 65 rfl rfl rfl ?_
    refine x_l 67 rfl rfl rfl ?_
    exact z_cv (As := [.int x2, .int x3, .int ((x2 + x4) - (1 : Int32)), .int ((x3 + x5) - (1 : Int32)), .int x6]) (rest := []) (b := 36) rfl at_Pl_paint rfl rfl (Nat.le_of_ble_eq_true rfl) (Nat.le_of_ble_eq_true rfl) ⟨rfl, rfl, rfl⟩ (by decide) rfl h

theorem bk_Pl_readBox_70 {k : Nat} {pa pb : Nat} {ga : Nat → Nat} {I : pm_II} {J : pm_JJ} {Q : Option Value → pm_H → Prop} {x2 : Int32} {x3 : Int32} {x4 : Int32} {x5 : Int32} {x6 : Int32} (h : Q none (hp I J (pm_RT pa pb ga))) : Px (k + 1) 176 m_Pl_readBox 70 [.ref 36, .ref 17, .int x2, .int x3, .int x4, .int x5, .int x6] [] (hp I J (pm_RT pa pb ga)) Q := by
  exact x_rv rfl rfl h

theorem bk_Pl_pointAt_0 {k : Nat} {pa pb : Nat} {ga : Nat → Nat} {I : pm_II} {J : pm_JJ} {Q : Option Value → pm_H → Prop} {x2 : Int32} {x3 : Int32} {x4 : Int32} {x5 : Int32} (h : ((x4 < 0 → Q (some (.int (-1))) (hp I J (pm_RT pa pb ga))) ∧ (¬ (x4 < 0) → ((x5 < 0 → Q (some (.int (-1))) (hp I J (pm_RT pa pb ga))) ∧ (¬ (x5 < 0) → Px k 176 m_Fo_columns 0 [.ref 29] [] (hp I J (pm_RT pa pb ga)) (fun r h' => h'.1 = 176 ∧ Px (k + 1) 176 m_Pl_pointAt 19 [.ref 36, .ref 29, .int x2, .int x3, .int x4, .int x5, .null, .null, .null] (r.toList ++ [.int (x4 / 8)]) h' Q)))))) : Px (k + 1) 176 m_Pl_pointAt 0 [.ref 36, .ref 29, .int x2, .int x3, .int x4, .int x5, .null, .null, .null] [] (hp I J (pm_RT pa pb ga)) Q := by
  refine x_l 2 rfl rfl rfl ?_
  refine x_b 5 rfl rfl rfl (fun c => ?_) (fun c => ?_)
  · have h := h.1 c
    refine z_k 44 (-1) rfl (by decide) rfl ?_
    exact x_ri rfl (Or.inl rfl) h
  · have h := h.2 c
    refine x_l 7 rfl rfl rfl ?_
    refine x_b 10 rfl rfl rfl (fun c => ?_) (fun c => ?_)
    · have h := h.1 c
      refine z_k 44 (-1) rfl (by decide) rfl ?_
      exact x_ri rfl (Or.inl rfl) h
    · have h := h.2 c
      refine x_l 12 rfl rfl rfl ?_
      refine z_k 14 8 rfl (by decide) rfl ?_
      refine x_dv 15 rfl (by decide) rfl ?_
      refine x_l 16 rfl rfl rfl ?_
      exact z_cv (As := []) (rest := [.int (x4 / 8)]) (b := 29) rfl at_Fo_columns rfl rfl (Nat.le_of_ble_eq_true rfl) (Nat.le_of_ble_eq_true rfl) ⟨rfl, rfl, rfl⟩ (by decide) rfl h

theorem bk_Pl_pointAt_19 {k : Nat} {pa pb : Nat} {ga : Nat → Nat} {I : pm_II} {J : pm_JJ} {Q : Option Value → pm_H → Prop} {x2 : Int32} {x3 : Int32} {x4 : Int32} {x5 : Int32} {s0 : Int32} {s1 : Int32} (h : ((s1 ≤ s0 → Q (some (.int (-1))) (hp I J (pm_RT pa pb ga))) ∧ (¬ (s1 ≤ s0) → Px k 176 m_Fo_rows 0 [.ref 29] [] (hp I J (pm_RT pa pb ga)) (fun r h' => h'.1 = 176 ∧ Px (k + 1) 176 m_Pl_pointAt 31 [.ref 36, .ref 29, .int x2, .int x3, .int x4, .int x5, .null, .null, .null] (r.toList ++ [.int (x5 / 8)]) h' Q)))) : Px (k + 1) 176 m_Pl_pointAt 19 [.ref 36, .ref 29, .int x2, .int x3, .int x4, .int x5, .null, .null, .null] [.int s1, .int s0] (hp I J (pm_RT pa pb ga)) Q := by
  refine x_b 22 rfl rfl rfl (fun c => ?_) (fun c => ?_)
  · have h := h.1 c
    refine z_k 44 (-1) rfl (by decide) rfl ?_
    exact x_ri rfl (Or.inl rfl) h
  · have h := h.2 c
    refine x_l 24 rfl rfl rfl ?_
    refine z_k 26 8 rfl (by decide) rfl ?_
    refine x_dv 27 rfl (by decide) rfl ?_
    refine x_l 28 rfl rfl rfl ?_
    exact z_cv (As := []) (rest := [.int (x5 / 8)]) (b := 29) rfl at_Fo_rows rfl rfl (Nat.le_of_ble_eq_true rfl) (Nat.le_of_ble_eq_true rfl) ⟨rfl, rfl, rfl⟩ (by decide) rfl h

theorem bk_Pl_pointAt_31 {k : Nat} {pa pb : Nat} {ga : Nat → Nat} {I : pm_II} {J : pm_JJ} {Q : Option Value → pm_H → Prop} {x2 : Int32} {x3 : Int32} {x4 : Int32} {x5 : Int32} {s0 : Int32} {s1 : Int32} (h : ((s1 ≤ s0 → Q (some (.int (-1))) (hp I J (pm_RT pa pb ga))) ∧ (¬ (s1 ≤ s0) → Px k 176 m_Fo_hasSide 0 [.ref 29, .int x2, .int x3] [] (hp I J (pm_RT pa pb ga)) (fun r h' => h'.1 = 176 ∧ Px (k + 1) 176 m_Pl_pointAt 40 [.ref 36, .ref 29, .int x2, .int x3, .int x4, .int x5, .null, .null, .null] (r.toList ++ []) h' Q)))) : Px (k + 1) 176 m_Pl_pointAt 31 [.ref 36, .ref 29, .int x2, .int x3, .int x4, .int x5, .null, .null, .null] [.int s1, .int s0] (hp I J (pm_RT pa pb ga)) Q := by
  refine x_b 34 rfl rfl rfl (fun c => ?_) (fun c => ?_)
  · have h := h.1 c
    refine z_k 44 (-1) rfl (by decide) rfl ?_
    exact x_ri rfl (Or.inl rfl) h
  · have h := h.2 c
    refine x_l 35 rfl rfl rfl ?_
    refine x_l 36 rfl rfl rfl ?_
    refine x_l 37 rfl rfl rfl ?_
    exact z_cv (As := [.int x2, .int x3]) (rest := []) (b := 29) rfl at_Fo_hasSide rfl rfl (Nat.le_of_ble_eq_true rfl) (Nat.le_of_ble_eq_true rfl) ⟨rfl, rfl, rfl⟩ (by decide) rfl h

theorem bk_Pl_pointAt_40 {k : Nat} {pa pb : Nat} {ga : Nat → Nat} {I : pm_II} {J : pm_JJ} {Q : Option Value → pm_H → Prop} {x2 : Int32} {x3 : Int32} {x4 : Int32} {x5 : Int32} {s0 : Int32} (h : ((¬ s0 = 0 → Px k 176 m_Pl_panelColumn 0 [.ref 29, .int x3, .int (x4 / 8)] [] (hp I J (pm_RT pa pb ga)) (fun r h' => h'.1 = 176 ∧ Px (k + 1) 176 m_Pl_pointAt 62 [.ref 36, .ref 29, .int x2, .int x3, .int x4, .int x5, .int (x5 / 8), .null, .null] (r.toList ++ []) h' Q)) ∧ (¬ (¬ s0 = 0) → Q (some (.int (-1))) (hp I J (pm_RT pa pb ga))))) : Px (k + 1) 176 m_Pl_pointAt 40 [.ref 36, .ref 29, .int x2, .int x3, .int x4, .int x5, .null, .null, .null] [.int s0] (hp I J (pm_RT pa pb ga)) Q := by
  refine x_b 43 rfl rfl rfl (fun c => ?_) (fun c => ?_)
  · have h := h.1 c
    refine x_l 47 rfl rfl rfl ?_
    refine z_k 49 8 rfl (by decide) rfl ?_
    refine x_dv 50 rfl (by decide) rfl ?_
    refine x_t 52 rfl rfl rfl ?_
    refine x_l 53 rfl rfl rfl ?_
    refine x_l 54 rfl rfl rfl ?_
    refine x_l 56 rfl rfl rfl ?_
    refine z_k 58 8 rfl (by decide) rfl ?_
    refine x_dv 59 rfl (by decide) rfl ?_
    exact z_cs (As := [.ref 29, .int x3, .int (x4 / 8)]) (rest := []) rfl at_Pl_panelColumn rfl rfl (Nat.le_of_ble_eq_true rfl) (Nat.le_of_ble_eq_true rfl) rfl h
  · have h := h.2 c
    refine z_k 44 (-1) rfl (by decide) rfl ?_
    exact x_ri rfl (Or.inl rfl) h

theorem bk_Pl_pointAt_62 {k : Nat} {pa pb : Nat} {ga : Nat → Nat} {I : pm_II} {J : pm_JJ} {Q : Option Value → pm_H → Prop} {x2 : Int32} {x3 : Int32} {x4 : Int32} {x5 : Int32} {x6 : Int32} {s0 : Int32} (h : Px k 176 m_Fo_pageOn 0 [.ref 29, .int x2, .int x3, .int x6, .int s0, .null] [] (hp I J (pm_RT pa pb ga)) (fun r h' => h'.1 = 176 ∧ Px (k + 1) 176 m_Pl_pointAt 74 [.ref 36, .ref 29, .int x2, .int x3, .int x4, .int x5, .int x6, .int s0, .null] (r.toList ++ []) h' Q)) : Px (k + 1) 176 m_Pl_pointAt 62 [.ref 36, .ref 29, .int x2, .int x3, .int x4, .int x5, .int x6, .null, .null] [.int s0] (hp I J (pm_RT pa pb ga)) Q := by
  refine x_t 64 rfl rfl rfl ?_
  refine x_l 65 rfl rfl rfl ?_
  refine x_l 66 rfl rfl rfl ?_
  refine x_l 67 rfl rfl rfl ?_
  refine x_l 69 rfl rfl rfl ?_
  refine x_l 71 rfl rfl rfl ?_
  exact z_cv (As := [.int x2, .int x3, .int x6, .int s0]) (rest := []) (b := 29) rfl at_Fo_pageOn rfl rfl (Nat.le_of_ble_eq_true rfl) (Nat.le_of_ble_eq_true rfl) ⟨rfl, rfl, rfl⟩ (by decide) rfl h

theorem bk_Pl_pointAt_74 {k : Nat} {pa pb : Nat} {ga : Nat → Nat} {I : pm_II} {J : pm_JJ} {Q : Option Value → pm_H → Prop} {x2 : Int32} {x3 : Int32} {x4 : Int32} {x5 : Int32} {x6 : Int32} {x7 : Int32} {s0 : Int32} (h : Px k 176 m_Fo_isUpsideDown 0 [.ref 29, .int x6, .int x7] [] (hp I J (pm_RT pa pb ga)) (fun r h' => h'.1 = 176 ∧ Px (k + 1) 176 m_Pl_pointAt 87 [.ref 36, .ref 29, .int x2, .int x3, .int x4, .int x5, .int x6, .int x7, .int s0] (r.toList ++ [.int s0, .ref 36]) h' Q)) : Px (k + 1) 176 m_Pl_pointAt 74 [.ref 36, .ref 29, .int x2, .int x3, .int x4, .int x5, .int x6, .int x7, .null] [.int s0] (hp I J (pm_RT pa pb ga)) Q := by
  refine x_t 76 rfl rfl rfl ?_
  refine x_l 77 rfl rfl rfl ?_
  refine x_l 79 rfl rfl rfl ?_
  refine x_l 80 rfl rfl rfl ?_
  refine x_l 82 rfl rfl rfl ?_
  refine x_l 84 rfl rfl rfl ?_
  exact z_cv (As := [.int x6, .int x7]) (rest := [.int s0, .ref 36]) (b := 29) rfl at_Fo_isUpsideDown rfl rfl (Nat.le_of_ble_eq_true rfl) (Nat.le_of_ble_eq_true rfl) ⟨rfl, rfl, rfl⟩ (by decide) rfl h

theorem bk_Pl_pointAt_87 {k : Nat} {pa pb : Nat} {ga : Nat → Nat} {I : pm_II} {J : pm_JJ} {Q : Option Value → pm_H → Prop} {x2 : Int32} {x3 : Int32} {x4 : Int32} {x5 : Int32} {x6 : Int32} {x7 : Int32} {x8 : Int32} {s1 : Int32} {s2 : Int32} (h : Px k 176 m_Pl_inked 0 [.ref 36, .int s1, .int s2, .int (x4 - x4 / 8 * 8), .int (x5 - x5 / 8 * 8), .null, .null] [] (hp I J (pm_RT pa pb ga)) (fun r h' => h'.1 = 176 ∧ Px (k + 1) 176 m_Pl_pointAt 100 [.ref 36, .ref 29, .int x2, .int x3, .int x4, .int x5, .int x6, .int x7, .int x8] (r.toList ++ []) h' Q)) : Px (k + 1) 176 m_Pl_pointAt 87 [.ref 36, .ref 29, .int x2, .int x3, .int x4, .int x5, .int x6, .int x7, .int x8] [.int s2, .int s1, .ref 36] (hp I J (pm_RT pa pb ga)) Q := by
  refine x_l 89 rfl rfl rfl ?_
  refine z_k 91 8 rfl (by decide) rfl ?_
  refine x_rm 92 rfl (by decide) rfl ?_
  refine x_l 94 rfl rfl rfl ?_
  refine z_k 96 8 rfl (by decide) rfl ?_
  refine x_rm 97 rfl (by decide) rfl ?_
  exact z_cv (As := [.int s1, .int s2, .int (x4 - x4 / 8 * 8), .int (x5 - x5 / 8 * 8)]) (rest := []) (b := 36) rfl at_Pl_inked rfl rfl (Nat.le_of_ble_eq_true rfl) (Nat.le_of_ble_eq_true rfl) ⟨rfl, rfl, rfl⟩ (by decide) rfl h

theorem bk_Pl_pointAt_100 {k : Nat} {pa pb : Nat} {ga : Nat → Nat} {I : pm_II} {J : pm_JJ} {Q : Option Value → pm_H → Prop} {x2 : Int32} {x3 : Int32} {x4 : Int32} {x5 : Int32} {x6 : Int32} {x7 : Int32} {x8 : Int32} {s0 : Int32} (h : ((s0 = 0 → Q (some (.int 0)) (hp I J (pm_RT pa pb ga))) ∧ (¬ (s0 = 0) → Q (some (.int 1)) (hp I J (pm_RT pa pb ga))))) : Px (k + 1) 176 m_Pl_pointAt 100 [.ref 36, .ref 29, .int x2, .int x3, .int x4, .int x5, .int x6, .int x7, .int x8] [.int s0] (hp I J (pm_RT pa pb ga)) Q := by
  refine x_b 103 rfl rfl rfl (fun c => ?_) (fun c => ?_)
  · have h := h.1 c
    refine z_k 108 0 rfl (by decide) rfl ?_
    exact x_ri rfl (Or.inl rfl) h
  · have h := h.2 c
    refine z_k 104 1 rfl (by decide) rfl ?_
    refine x_g rfl ?_
    exact x_ri rfl (Or.inl rfl) h

theorem bk_Pl_panelColumn_0 {k : Nat} {pa pb : Nat} {ga : Nat → Nat} {I : pm_II} {J : pm_JJ} {Q : Option Value → pm_H → Prop} {x1 : Int32} {x2 : Int32} (h : ((¬ x1 = 1 → Q (some (.int x2)) (hp I J (pm_RT pa pb ga))) ∧ (¬ (¬ x1 = 1) → Px k 176 m_Fo_columns 0 [.ref 29] [] (hp I J (pm_RT pa pb ga)) (fun r h' => h'.1 = 176 ∧ Px (k + 1) 176 m_Pl_panelColumn 9 [.ref 29, .int x1, .int x2] (r.toList ++ []) h' Q)))) : Px (k + 1) 176 m_Pl_panelColumn 0 [.ref 29, .int x1, .int x2] [] (hp I J (pm_RT pa pb ga)) Q := by
  refine x_l 1 rfl rfl rfl ?_
  refine z_k 2 1 rfl (by decide) rfl ?_
  refine x_b 5 rfl rfl rfl (fun c => ?_) (fun c => ?_)
  · have h := h.1 c
    refine x_l 17 rfl rfl rfl ?_
    exact x_ri rfl (Or.inl rfl) h
  · have h := h.2 c
    refine x_l 6 rfl rfl rfl ?_
    exact z_cv (As := []) (rest := []) (b := 29) rfl at_Fo_columns rfl rfl (Nat.le_of_ble_eq_true rfl) (Nat.le_of_ble_eq_true rfl) ⟨rfl, rfl, rfl⟩ (by decide) rfl h

theorem bk_Pl_panelColumn_9 {k : Nat} {pa pb : Nat} {ga : Nat → Nat} {I : pm_II} {J : pm_JJ} {Q : Option Value → pm_H → Prop} {x1 : Int32} {x2 : Int32} {s0 : Int32} (h : Q (some (.int ((s0 - (1 : Int32)) - x2))) (hp I J (pm_RT pa pb ga))) : Px (k + 1) 176 m_Pl_panelColumn 9 [.ref 29, .int x1, .int x2] [.int s0] (hp I J (pm_RT pa pb ga)) Q := by
  refine z_k 10 1 rfl (by decide) rfl ?_
  refine x_s 11 rfl rfl rfl ?_
  refine x_l 12 rfl rfl rfl ?_
  refine x_s 13 rfl rfl rfl ?_
  refine x_g rfl ?_
  exact x_ri rfl (Or.inl rfl) h

theorem bk_Pl_inked_0 {k : Nat} {pa pb : Nat} {ga : Nat → Nat} {I : pm_II} {J : pm_JJ} {Q : Option Value → pm_H → Prop} {x1 : Int32} {x2 : Int32} {x3 : Int32} {x4 : Int32} (h : ((x1 < 0 → Q (some (.int 0)) (hp I J (pm_RT pa pb ga))) ∧ (¬ (x1 < 0) → ((32 ≤ x1 → Q (some (.int 0)) (hp I J (pm_RT pa pb ga))) ∧ (¬ (32 ≤ x1) → ((x3 < 0 → Q (some (.int 0)) (hp I J (pm_RT pa pb ga))) ∧ (¬ (x3 < 0) → ((8 ≤ x3 → Q (some (.int 0)) (hp I J (pm_RT pa pb ga))) ∧ (¬ (8 ≤ x3) → ((x4 < 0 → Q (some (.int 0)) (hp I J (pm_RT pa pb ga))) ∧ (¬ (x4 < 0) → ((x4 < 8 → ((x2 = 0 → Px k 176 m_Pl_inked 57 [.ref 36, .int x1, .int x2, .int x3, .int x4, .int ((x4 * (8 : Int32)) + x3), .null] [.int ((x4 * (8 : Int32)) + x3)] (hp I J (pm_RT pa pb ga)) Q) ∧ (¬ (x2 = 0) → Px k 176 m_Pl_inked 57 [.ref 36, .int x1, .int x2, .int x3, .int x4, .int ((x4 * (8 : Int32)) + x3), .null] [.int ((63 : Int32) - ((x4 * (8 : Int32)) + x3))] (hp I J (pm_RT pa pb ga)) Q))) ∧ (¬ (x4 < 8) → Q (some (.int 0)) (hp I J (pm_RT pa pb ga))))))))))))))) : Px k 176 m_Pl_inked 0 [.ref 36, .int x1, .int x2, .int x3, .int x4, .null, .null] [] (hp I J (pm_RT pa pb ga)) Q := by
  refine x_l 1 rfl rfl rfl ?_
  refine x_b 4 rfl rfl rfl (fun c => ?_) (fun c => ?_)
  · have h := h.1 c
    refine z_k 33 0 rfl (by decide) rfl ?_
    exact x_ri rfl (Or.inr ⟨rfl, Or.inl rfl⟩) h
  · have h := h.2 c
    refine x_l 5 rfl rfl rfl ?_
    refine z_k 7 32 rfl (by decide) rfl ?_
    refine x_b 10 rfl rfl rfl (fun c => ?_) (fun c => ?_)
    · have h := h.1 c
      refine z_k 33 0 rfl (by decide) rfl ?_
      exact x_ri rfl (Or.inr ⟨rfl, Or.inl rfl⟩) h
    · have h := h.2 c
      refine x_l 11 rfl rfl rfl ?_
      refine x_b 14 rfl rfl rfl (fun c => ?_) (fun c => ?_)
      · have h := h.1 c
        refine z_k 33 0 rfl (by decide) rfl ?_
        exact x_ri rfl (Or.inr ⟨rfl, Or.inl rfl⟩) h
      · have h := h.2 c
        refine x_l 15 rfl rfl rfl ?_
        refine z_k 17 8 rfl (by decide) rfl ?_
        refine x_b 20 rfl rfl rfl (fun c => ?_) (fun c => ?_)
        · have h := h.1 c
          refine z_k 33 0 rfl (by decide) rfl ?_
          exact x_ri rfl (Or.inr ⟨rfl, Or.inl rfl⟩) h
        · have h := h.2 c
          refine x_l 22 rfl rfl rfl ?_
          refine x_b 25 rfl rfl rfl (fun c => ?_) (fun c => ?_)
          · have h := h.1 c
            refine z_k 33 0 rfl (by decide) rfl ?_
            exact x_ri rfl (Or.inr ⟨rfl, Or.inl rfl⟩) h
          · have h := h.2 c
            refine x_l 27 rfl rfl rfl ?_
            refine z_k 29 8 rfl (by decide) rfl ?_
            refine x_b 32 rfl rfl rfl (fun c => ?_) (fun c => ?_)
            · have h := h.1 c
              refine x_l 36 rfl rfl rfl ?_
              refine z_k 38 8 rfl (by decide) rfl ?_
              refine x_s 39 rfl rfl rfl ?_
              refine x_l 40 rfl rfl rfl ?_
              refine x_s 41 rfl rfl rfl ?_
              refine x_t 43 rfl rfl rfl ?_
              refine x_l 44 rfl rfl rfl ?_
              refine x_b 47 rfl rfl rfl (fun c => ?_) (fun c => ?_)
              · have h := h.1 c
                refine x_l 57 rfl rfl rfl ?_
                exact h
              · have h := h.2 c
                refine z_k 49 63 rfl (by decide) rfl ?_
                refine x_l 51 rfl rfl rfl ?_
                refine x_s 52 rfl rfl rfl ?_
                refine x_g rfl ?_
                exact h
            · have h := h.2 c
              refine z_k 33 0 rfl (by decide) rfl ?_
              exact x_ri rfl (Or.inr ⟨rfl, Or.inl rfl⟩) h

theorem bk_Pl_inked_57 {k : Nat} {pa pb : Nat} {ga : Nat → Nat} {I : pm_II} {J : pm_JJ} {Q : Option Value → pm_H → Prop} {x1 : Int32} {x2 : Int32} {x3 : Int32} {x4 : Int32} {x5 : Int32} {s0 : Int32} (h : vp_in ((x1 * (64 : Int32)) + s0) 2048 ∧ vp_in (((x4 - x4 / 4 * 4) * (4 : Int32)) + (x3 - x3 / 4 * 4)) 16 ∧ (((I 37 ((((x1 * (64 : Int32)) + s0) : Int32).toNatClampNeg)) ≤ (pm_con 1 ((((x4 - x4 / 4 * 4) * (4 : Int32)) + (x3 - x3 / 4 * 4)) : Int32).toNatClampNeg) → Q (some (.int 0)) (hp I J (pm_RT pa pb ga))) ∧ (¬ ((I 37 ((((x1 * (64 : Int32)) + s0) : Int32).toNatClampNeg)) ≤ (pm_con 1 ((((x4 - x4 / 4 * 4) * (4 : Int32)) + (x3 - x3 / 4 * 4)) : Int32).toNatClampNeg)) → Q (some (.int 1)) (hp I J (pm_RT pa pb ga))))) : Px k 176 m_Pl_inked 57 [.ref 36, .int x1, .int x2, .int x3, .int x4, .int x5, .null] [.int s0] (hp I J (pm_RT pa pb ga)) Q := by
  refine x_t 59 rfl rfl rfl ?_
  refine x_l 60 rfl rfl rfl ?_
  refine z_gf 63 (.ref 37) rfl ⟨rfl, rfl, rfl⟩ rfl rfl ?_
  refine x_l 64 rfl rfl rfl ?_
  refine z_k 66 64 rfl (by decide) rfl ?_
  refine x_s 67 rfl rfl rfl ?_
  refine x_l 69 rfl rfl rfl ?_
  refine x_s 70 rfl rfl rfl ?_
  have h1 := h.1
  have h := h.2
  refine z_il 71 2048 rfl ⟨rfl, rfl, rfl⟩ rfl h1 rfl ?_
  refine x_gs 74 rfl rfl ?_
  refine x_l 76 rfl rfl rfl ?_
  refine z_k 77 4 rfl (by decide) rfl ?_
  refine x_rm 78 rfl (by decide) rfl ?_
  refine z_k 79 4 rfl (by decide) rfl ?_
  refine x_s 80 rfl rfl rfl ?_
  refine x_l 81 rfl rfl rfl ?_
  refine z_k 82 4 rfl (by decide) rfl ?_
  refine x_rm 83 rfl (by decide) rfl ?_
  refine x_s 84 rfl rfl rfl ?_
  have h1 := h.1
  have h := h.2
  refine x_cl 85 rfl (Or.inl rfl) h1 rfl ?_
  refine x_b 88 rfl rfl rfl (fun c => ?_) (fun c => ?_)
  · have h := h.1 c
    refine z_k 93 0 rfl (by decide) rfl ?_
    exact x_ri rfl (Or.inr ⟨rfl, Or.inl rfl⟩) h
  · have h := h.2 c
    refine z_k 89 1 rfl (by decide) rfl ?_
    refine x_g rfl ?_
    exact x_ri rfl (Or.inr ⟨rfl, Or.inr rfl⟩) h

theorem bk_Pr_clear_0 {k : Nat} {pa pb : Nat} {ga : Nat → Nat} {I : pm_II} {J : pm_JJ} {Q : Option Value → pm_H → Prop} {x1 : Int32} (h : Px k 176 m_Jm_min_II 0 [.int x1, .int 8] [] (hp I J (pm_RT pa pb ga)) (fun r h' => h'.1 = 176 ∧ Px (k + 1) 176 m_Pr_clear 7 [.ref 39, .int x1, .null] (r.toList ++ [.ref 39]) h' Q)) : Px (k + 1) 176 m_Pr_clear 0 [.ref 39, .int x1, .null] [] (hp I J (pm_RT pa pb ga)) Q := by
  refine x_l 1 rfl rfl rfl ?_
  refine x_l 2 rfl rfl rfl ?_
  refine z_k 4 8 rfl (by decide) rfl ?_
  exact z_cs (As := [.int x1, .int 8]) (rest := [.ref 39]) rfl at_Jm_min_II rfl rfl (Nat.le_of_ble_eq_true rfl) (Nat.le_of_ble_eq_true rfl) rfl h

theorem bk_Pr_clear_7 {k : Nat} {pa pb : Nat} {ga : Nat → Nat} {I : pm_II} {J : pm_JJ} {Q : Option Value → pm_H → Prop} {x1 : Int32} {s1 : Int32} (h : Px (k + 1) 176 m_Pr_clear 22 [.ref 39, .int x1, .int 0] [] (hp (pm_up (pm_up (pm_up I 39 8 s1) 39 12 0) 39 13 0) J (pm_RT pa pb ga)) Q) : Px (k + 1) 176 m_Pr_clear 7 [.ref 39, .int x1, .null] [.int s1, .ref 39] (hp I J (pm_RT pa pb ga)) Q := by
  refine z_pi 10 rfl (Or.inl rfl) rfl (fun z => by cases z) ⟨rfl, rfl, rfl⟩ rfl ?_
  refine x_l 11 rfl rfl rfl ?_
  refine z_k 12 0 rfl (by decide) rfl ?_
  refine z_pi 15 rfl (Or.inl rfl) rfl (fun z => by cases z) ⟨rfl, rfl, rfl⟩ rfl ?_
  refine x_l 16 rfl rfl rfl ?_
  refine z_k 17 0 rfl (by decide) rfl ?_
  refine z_pi 20 rfl (Or.inl rfl) rfl (fun z => by cases z) ⟨rfl, rfl, rfl⟩ rfl ?_
  refine z_k 21 0 rfl (by decide) rfl ?_
  refine x_t 22 rfl rfl rfl ?_
  exact h

theorem bk_Pr_clear_22 {k : Nat} {pa pb : Nat} {ga : Nat → Nat} {I : pm_II} {J : pm_JJ} {Q : Option Value → pm_H → Prop} {x1 : Int32} {x2 : Int32} (h : (((Int32.ofNat 126) ≤ x2 → Q none (hp I J (pm_RT pa pb ga))) ∧ (¬ ((Int32.ofNat 126) ≤ x2) → vp_in x2 126 ∧ Px (k + 1) 176 m_Pr_clear 22 [.ref 39, .int x1, .int (x2 + Int32.ofInt 1)] [] (hp (pm_up I 47 ((x2 : Int32).toNatClampNeg) 0) J (pm_RT pa pb ga)) Q))) : Px (k + 1) 176 m_Pr_clear 22 [.ref 39, .int x1, .int x2] [] (hp I J (pm_RT pa pb ga)) Q := by
  refine x_l 23 rfl rfl rfl ?_
  refine x_l 24 rfl rfl rfl ?_
  refine z_gf 27 (.ref 47) rfl ⟨rfl, rfl, rfl⟩ rfl rfl ?_
  refine z_al 28 126 rfl ⟨rfl, rfl, rfl⟩ rfl rfl ?_
  refine x_b 31 rfl rfl rfl (fun c => ?_) (fun c => ?_)
  · have h := h.1 c
    exact x_rv rfl rfl h
  · have h := h.2 c
    refine x_l 32 rfl rfl rfl ?_
    refine z_gf 35 (.ref 47) rfl ⟨rfl, rfl, rfl⟩ rfl rfl ?_
    refine x_l 36 rfl rfl rfl ?_
    refine z_k 37 0 rfl (by decide) rfl ?_
    have h1 := h.1
    have h := h.2
    refine z_is 38 126 rfl ⟨rfl, rfl, rfl⟩ rfl h1 rfl ?_
    refine x_t 41 rfl rfl rfl ?_
    refine x_g rfl ?_
    exact h

theorem bk_Pl_coverageOf_0 {k : Nat} {pa pb : Nat} {ga : Nat → Nat} {I : pm_II} {J : pm_JJ} {Q : Option Value → pm_H → Prop} {x2 : Int32} {x3 : Int32} {x4 : Int32} (h : Px k 176 m_Pl_panelColumn 0 [.ref 29, .int x3, .int x4] [] (hp I J (pm_RT pa pb ga)) (fun r h' => h'.1 = 176 ∧ Px (k + 1) 176 m_Pl_coverageOf 7 [.ref 36, .ref 29, .int x2, .int x3, .int x4, .null, .null, .null] (r.toList ++ []) h' Q)) : Px (k + 1) 176 m_Pl_coverageOf 0 [.ref 36, .ref 29, .int x2, .int x3, .int x4, .null, .null, .null] [] (hp I J (pm_RT pa pb ga)) Q := by
  refine x_l 1 rfl rfl rfl ?_
  refine x_l 2 rfl rfl rfl ?_
  refine x_l 4 rfl rfl rfl ?_
  exact z_cs (As := [.ref 29, .int x3, .int x4]) (rest := []) rfl at_Pl_panelColumn rfl rfl (Nat.le_of_ble_eq_true rfl) (Nat.le_of_ble_eq_true rfl) rfl h

theorem bk_Pl_coverageOf_7 {k : Nat} {pa pb : Nat} {ga : Nat → Nat} {I : pm_II} {J : pm_JJ} {Q : Option Value → pm_H → Prop} {x2 : Int32} {x3 : Int32} {x4 : Int32} {s0 : Int32} (h : Px (k + 1) 176 m_Pl_coverageOf 15 [.ref 36, .ref 29, .int x2, .int x3, .int x4, .int s0, .int 0, .int 0] [] (hp I J (pm_RT pa pb ga)) Q) : Px (k + 1) 176 m_Pl_coverageOf 7 [.ref 36, .ref 29, .int x2, .int x3, .int x4, .null, .null, .null] [.int s0] (hp I J (pm_RT pa pb ga)) Q := by
  refine x_t 9 rfl rfl rfl ?_
  refine z_k 10 0 rfl (by decide) rfl ?_
  refine x_t 12 rfl rfl rfl ?_
  refine z_k 13 0 rfl (by decide) rfl ?_
  refine x_t 15 rfl rfl rfl ?_
  exact h

theorem bk_Pl_coverageOf_15 {k : Nat} {pa pb : Nat} {ga : Nat → Nat} {I : pm_II} {J : pm_JJ} {Q : Option Value → pm_H → Prop} {x2 : Int32} {x3 : Int32} {x4 : Int32} {x5 : Int32} {x6 : Int32} {x7 : Int32} (h : Px k 176 m_Fo_rows 0 [.ref 29] [] (hp I J (pm_RT pa pb ga)) (fun r h' => h'.1 = 176 ∧ Px (k + 1) 176 m_Pl_coverageOf 21 [.ref 36, .ref 29, .int x2, .int x3, .int x4, .int x5, .int x6, .int x7] (r.toList ++ [.int x7]) h' Q)) : Px (k + 1) 176 m_Pl_coverageOf 15 [.ref 36, .ref 29, .int x2, .int x3, .int x4, .int x5, .int x6, .int x7] [] (hp I J (pm_RT pa pb ga)) Q := by
  refine x_l 17 rfl rfl rfl ?_
  refine x_l 18 rfl rfl rfl ?_
  exact z_cv (As := []) (rest := [.int x7]) (b := 29) rfl at_Fo_rows rfl rfl (Nat.le_of_ble_eq_true rfl) (Nat.le_of_ble_eq_true rfl) ⟨rfl, rfl, rfl⟩ (by decide) rfl h

theorem bk_Pl_coverageOf_21 {k : Nat} {pa pb : Nat} {ga : Nat → Nat} {I : pm_II} {J : pm_JJ} {Q : Option Value → pm_H → Prop} {x2 : Int32} {x3 : Int32} {x4 : Int32} {x5 : Int32} {x6 : Int32} {x7 : Int32} {s0 : Int32} {s1 : Int32} (h : ((s1 ≤ s0 → Q (some (.int x6)) (hp I J (pm_RT pa pb ga))) ∧ (¬ (s1 ≤ s0) → Px k 176 m_Fo_pageOn 0 [.ref 29, .int x2, .int x3, .int x7, .int x5, .null] [] (hp I J (pm_RT pa pb ga)) (fun r h' => h'.1 = 176 ∧ Px (k + 1) 176 m_Pl_coverageOf 37 [.ref 36, .ref 29, .int x2, .int x3, .int x4, .int x5, .int x6, .int x7] (r.toList ++ [.ref 36, .int x6]) h' Q)))) : Px (k + 1) 176 m_Pl_coverageOf 21 [.ref 36, .ref 29, .int x2, .int x3, .int x4, .int x5, .int x6, .int x7] [.int s1, .int s0] (hp I J (pm_RT pa pb ga)) Q := by
  refine x_b 24 rfl rfl rfl (fun c => ?_) (fun c => ?_)
  · have h := h.1 c
    refine x_l 59 rfl rfl rfl ?_
    exact x_ri rfl (Or.inl rfl) h
  · have h := h.2 c
    refine x_l 26 rfl rfl rfl ?_
    refine x_l 27 rfl rfl rfl ?_
    refine x_l 28 rfl rfl rfl ?_
    refine x_l 29 rfl rfl rfl ?_
    refine x_l 30 rfl rfl rfl ?_
    refine x_l 32 rfl rfl rfl ?_
    refine x_l 34 rfl rfl rfl ?_
    exact z_cv (As := [.int x2, .int x3, .int x7, .int x5]) (rest := [.ref 36, .int x6]) (b := 29) rfl at_Fo_pageOn rfl rfl (Nat.le_of_ble_eq_true rfl) (Nat.le_of_ble_eq_true rfl) ⟨rfl, rfl, rfl⟩ (by decide) rfl h

theorem bk_Pl_coverageOf_37 {k : Nat} {pa pb : Nat} {ga : Nat → Nat} {I : pm_II} {J : pm_JJ} {Q : Option Value → pm_H → Prop} {x2 : Int32} {x3 : Int32} {x4 : Int32} {x5 : Int32} {x6 : Int32} {x7 : Int32} {s0 : Int32} {s2 : Int32} (h : Px k 176 m_Fo_isUpsideDown 0 [.ref 29, .int x7, .int x5] [] (hp I J (pm_RT pa pb ga)) (fun r h' => h'.1 = 176 ∧ Px (k + 1) 176 m_Pl_coverageOf 45 [.ref 36, .ref 29, .int x2, .int x3, .int x4, .int x5, .int x6, .int x7] (r.toList ++ [.int s2, .ref 36, .int s0]) h' Q)) : Px (k + 1) 176 m_Pl_coverageOf 37 [.ref 36, .ref 29, .int x2, .int x3, .int x4, .int x5, .int x6, .int x7] [.int s2, .ref 36, .int s0] (hp I J (pm_RT pa pb ga)) Q := by
  refine x_l 38 rfl rfl rfl ?_
  refine x_l 40 rfl rfl rfl ?_
  refine x_l 42 rfl rfl rfl ?_
  exact z_cv (As := [.int x7, .int x5]) (rest := [.int s2, .ref 36, .int s0]) (b := 29) rfl at_Fo_isUpsideDown rfl rfl (Nat.le_of_ble_eq_true rfl) (Nat.le_of_ble_eq_true rfl) ⟨rfl, rfl, rfl⟩ (by decide) rfl h

theorem bk_Pl_coverageOf_45 {k : Nat} {pa pb : Nat} {ga : Nat → Nat} {I : pm_II} {J : pm_JJ} {Q : Option Value → pm_H → Prop} {x2 : Int32} {x3 : Int32} {x4 : Int32} {x5 : Int32} {x6 : Int32} {x7 : Int32} {s0 : Int32} {s2 : Int32} {s3 : Int32} (h : Px k 176 m_Pl_inkedOf 0 [.ref 36, .int s2, .int s3, .null, .null] [] (hp I J (pm_RT pa pb ga)) (fun r h' => h'.1 = 176 ∧ Px (k + 1) 176 m_Pl_coverageOf 48 [.ref 36, .ref 29, .int x2, .int x3, .int x4, .int x5, .int x6, .int x7] (r.toList ++ [.int s0]) h' Q)) : Px (k + 1) 176 m_Pl_coverageOf 45 [.ref 36, .ref 29, .int x2, .int x3, .int x4, .int x5, .int x6, .int x7] [.int s3, .int s2, .ref 36, .int s0] (hp I J (pm_RT pa pb ga)) Q := by
  exact z_cv (As := [.int s2, .int s3]) (rest := [.int s0]) (b := 36) rfl at_Pl_inkedOf rfl rfl (Nat.le_of_ble_eq_true rfl) (Nat.le_of_ble_eq_true rfl) ⟨rfl, rfl, rfl⟩ (by decide) rfl h

theorem bk_Pl_coverageOf_48 {k : Nat} {pa pb : Nat} {ga : Nat → Nat} {I : pm_II} {J : pm_JJ} {Q : Option Value → pm_H → Prop} {x2 : Int32} {x3 : Int32} {x4 : Int32} {x5 : Int32} {x6 : Int32} {x7 : Int32} {s0 : Int32} {s1 : Int32} (h : Px (k + 1) 176 m_Pl_coverageOf 15 [.ref 36, .ref 29, .int x2, .int x3, .int x4, .int x5, .int (s0 + s1), .int (x7 + Int32.ofInt 1)] [] (hp I J (pm_RT pa pb ga)) Q) : Px (k + 1) 176 m_Pl_coverageOf 48 [.ref 36, .ref 29, .int x2, .int x3, .int x4, .int x5, .int x6, .int x7] [.int s1, .int s0] (hp I J (pm_RT pa pb ga)) Q := by
  refine x_s 49 rfl rfl rfl ?_
  refine x_t 51 rfl rfl rfl ?_
  refine x_t 54 rfl rfl rfl ?_
  refine x_g rfl ?_
  exact h

theorem bk_Pl_inkedOf_0 {k : Nat} {pa pb : Nat} {ga : Nat → Nat} {I : pm_II} {J : pm_JJ} {Q : Option Value → pm_H → Prop} {x1 : Int32} {x2 : Int32} (h : Px (k + 1) 176 m_Pl_inkedOf 5 [.ref 36, .int x1, .int x2, .int 0, .int 0] [] (hp I J (pm_RT pa pb ga)) Q) : Px (k + 1) 176 m_Pl_inkedOf 0 [.ref 36, .int x1, .int x2, .null, .null] [] (hp I J (pm_RT pa pb ga)) Q := by
  refine z_k 1 0 rfl (by decide) rfl ?_
  refine x_t 2 rfl rfl rfl ?_
  refine z_k 3 0 rfl (by decide) rfl ?_
  refine x_t 5 rfl rfl rfl ?_
  exact h

theorem bk_Pl_inkedOf_5 {k : Nat} {pa pb : Nat} {ga : Nat → Nat} {I : pm_II} {J : pm_JJ} {Q : Option Value → pm_H → Prop} {x1 : Int32} {x2 : Int32} {x3 : Int32} {x4 : Int32} (h : ((64 ≤ x4 → Px (k + 1) 176 m_Pl_inkedOf 46 [.ref 36, .int x1, .int x2, .int x3, .int x4] [] (hp I J (pm_RT pa pb ga)) Q) ∧ (¬ (64 ≤ x4) → ((32 ≤ x1 → Px (k + 1) 176 m_Pl_inkedOf 46 [.ref 36, .int x1, .int x2, .int x3, .int x4] [] (hp I J (pm_RT pa pb ga)) Q) ∧ (¬ (32 ≤ x1) → Px k 176 m_Pl_inked 0 [.ref 36, .int x1, .int x2, .int (x4 - x4 / 8 * 8), .int (x4 / 8), .null, .null] [] (hp I J (pm_RT pa pb ga)) (fun r h' => h'.1 = 176 ∧ Px (k + 1) 176 m_Pl_inkedOf 34 [.ref 36, .int x1, .int x2, .int x3, .int x4] (r.toList ++ []) h' Q)))))) : Px (k + 1) 176 m_Pl_inkedOf 5 [.ref 36, .int x1, .int x2, .int x3, .int x4] [] (hp I J (pm_RT pa pb ga)) Q := by
  refine x_l 7 rfl rfl rfl ?_
  refine z_k 9 64 rfl (by decide) rfl ?_
  refine x_b 12 rfl rfl rfl (fun c => ?_) (fun c => ?_)
  · have h := h.1 c
    exact h
  · have h := h.2 c
    refine x_l 13 rfl rfl rfl ?_
    refine z_k 15 32 rfl (by decide) rfl ?_
    refine x_b 18 rfl rfl rfl (fun c => ?_) (fun c => ?_)
    · have h := h.1 c
      exact h
    · have h := h.2 c
      refine x_l 19 rfl rfl rfl ?_
      refine x_l 20 rfl rfl rfl ?_
      refine x_l 21 rfl rfl rfl ?_
      refine x_l 23 rfl rfl rfl ?_
      refine z_k 25 8 rfl (by decide) rfl ?_
      refine x_rm 26 rfl (by decide) rfl ?_
      refine x_l 28 rfl rfl rfl ?_
      refine z_k 30 8 rfl (by decide) rfl ?_
      refine x_dv 31 rfl (by decide) rfl ?_
      exact z_cv (As := [.int x1, .int x2, .int (x4 - x4 / 8 * 8), .int (x4 / 8)]) (rest := []) (b := 36) rfl at_Pl_inked rfl rfl (Nat.le_of_ble_eq_true rfl) (Nat.le_of_ble_eq_true rfl) ⟨rfl, rfl, rfl⟩ (by decide) rfl h

theorem bk_Pl_inkedOf_34 {k : Nat} {pa pb : Nat} {ga : Nat → Nat} {I : pm_II} {J : pm_JJ} {Q : Option Value → pm_H → Prop} {x1 : Int32} {x2 : Int32} {x3 : Int32} {x4 : Int32} {s0 : Int32} (h : ((s0 = 0 → Px (k + 1) 176 m_Pl_inkedOf 5 [.ref 36, .int x1, .int x2, .int x3, .int (x4 + Int32.ofInt 1)] [] (hp I J (pm_RT pa pb ga)) Q) ∧ (¬ (s0 = 0) → Px (k + 1) 176 m_Pl_inkedOf 5 [.ref 36, .int x1, .int x2, .int (x3 + Int32.ofInt 1), .int (x4 + Int32.ofInt 1)] [] (hp I J (pm_RT pa pb ga)) Q))) : Px (k + 1) 176 m_Pl_inkedOf 34 [.ref 36, .int x1, .int x2, .int x3, .int x4] [.int s0] (hp I J (pm_RT pa pb ga)) Q := by
  refine x_b 37 rfl rfl rfl (fun c => ?_) (fun c => ?_)
  · have h := h.1 c
    refine x_t 43 rfl rfl rfl ?_
    refine x_g rfl ?_
    exact h
  · have h := h.2 c
    refine x_t 40 rfl rfl rfl ?_
    refine x_t 43 rfl rfl rfl ?_
    refine x_g rfl ?_
    exact h

theorem bk_Pl_inkedOf_46 {k : Nat} {pa pb : Nat} {ga : Nat → Nat} {I : pm_II} {J : pm_JJ} {Q : Option Value → pm_H → Prop} {x1 : Int32} {x2 : Int32} {x3 : Int32} {x4 : Int32} (h : Q (some (.int x3)) (hp I J (pm_RT pa pb ga))) : Px (k + 1) 176 m_Pl_inkedOf 46 [.ref 36, .int x1, .int x2, .int x3, .int x4] [] (hp I J (pm_RT pa pb ga)) Q := by
  refine x_l 47 rfl rfl rfl ?_
  exact x_ri rfl (Or.inl rfl) h

theorem bk_Pr_cover_0 {k : Nat} {pa pb : Nat} {ga : Nat → Nat} {I : pm_II} {J : pm_JJ} {Q : Option Value → pm_H → Prop} {x1 : Int32} {x2 : Int32} {x3 : Int32} (h : ((x1 < 0 → Px (k + 1) 176 m_Pr_cover 35 [.ref 39, .int x1, .int x2, .int x3] [] (hp I J (pm_RT pa pb ga)) Q) ∧ (¬ (x1 < 0) → ((8 ≤ x1 → Px (k + 1) 176 m_Pr_cover 35 [.ref 39, .int x1, .int x2, .int x3] [] (hp I J (pm_RT pa pb ga)) Q) ∧ (¬ (8 ≤ x1) → ((x3 ≤ 0 → Px (k + 1) 176 m_Pr_cover 35 [.ref 39, .int x1, .int x2, .int x3] [] (hp I J (pm_RT pa pb ga)) Q) ∧ (¬ (x3 ≤ 0) → vp_in x1 9 ∧ ¬ x3 = 0 ∧ vp_in x1 9 ∧ Px k 176 m_Pr_cleanFilms 0 [.ref 39, .int x1] [] (hp (pm_up (pm_up I 41 ((x1 : Int32).toNatClampNeg) x2) 42 ((x1 : Int32).toNatClampNeg) (x2 / x3)) J (pm_RT pa pb ga)) (fun r h' => h'.1 = 176 ∧ Px (k + 1) 176 m_Pr_cover 35 [.ref 39, .int x1, .int x2, .int x3] (r.toList ++ []) h' Q)))))))) : Px (k + 1) 176 m_Pr_cover 0 [.ref 39, .int x1, .int x2, .int x3] [] (hp I J (pm_RT pa pb ga)) Q := by
  refine x_l 1 rfl rfl rfl ?_
  refine x_b 4 rfl rfl rfl (fun c => ?_) (fun c => ?_)
  · have h := h.1 c
    exact h
  · have h := h.2 c
    refine x_l 5 rfl rfl rfl ?_
    refine z_k 7 8 rfl (by decide) rfl ?_
    refine x_b 10 rfl rfl rfl (fun c => ?_) (fun c => ?_)
    · have h := h.1 c
      exact h
    · have h := h.2 c
      refine x_l 11 rfl rfl rfl ?_
      refine x_b 14 rfl rfl rfl (fun c => ?_) (fun c => ?_)
      · have h := h.1 c
        exact h
      · have h := h.2 c
        refine x_l 15 rfl rfl rfl ?_
        refine z_gf 18 (.ref 41) rfl ⟨rfl, rfl, rfl⟩ rfl rfl ?_
        refine x_l 19 rfl rfl rfl ?_
        refine x_l 20 rfl rfl rfl ?_
        have h1 := h.1
        have h := h.2
        refine z_is 21 9 rfl ⟨rfl, rfl, rfl⟩ rfl h1 rfl ?_
        refine x_l 22 rfl rfl rfl ?_
        refine z_gf 25 (.ref 42) rfl ⟨rfl, rfl, rfl⟩ rfl rfl ?_
        refine x_l 26 rfl rfl rfl ?_
        refine x_l 27 rfl rfl rfl ?_
        refine x_l 28 rfl rfl rfl ?_
        have h0 := h.1
        have h := h.2
        refine x_dv 29 rfl h0 rfl ?_
        have h1 := h.1
        have h := h.2
        refine z_is 30 9 rfl ⟨rfl, rfl, rfl⟩ rfl h1 rfl ?_
        refine x_l 31 rfl rfl rfl ?_
        refine x_l 32 rfl rfl rfl ?_
        exact z_cv (As := [.int x1]) (rest := []) (b := 39) rfl at_Pr_cleanFilms rfl rfl (Nat.le_of_ble_eq_true rfl) (Nat.le_of_ble_eq_true rfl) ⟨rfl, rfl, rfl⟩ (by decide) rfl h

theorem bk_Pr_cover_35 {k : Nat} {pa pb : Nat} {ga : Nat → Nat} {I : pm_II} {J : pm_JJ} {Q : Option Value → pm_H → Prop} {x1 : Int32} {x2 : Int32} {x3 : Int32} (h : Q none (hp I J (pm_RT pa pb ga))) : Px (k + 1) 176 m_Pr_cover 35 [.ref 39, .int x1, .int x2, .int x3] [] (hp I J (pm_RT pa pb ga)) Q := by
  exact x_rv rfl rfl h

theorem bk_Pr_cleanFilms_0 {k : Nat} {pa pb : Nat} {ga : Nat → Nat} {I : pm_II} {J : pm_JJ} {Q : Option Value → pm_H → Prop} {x1 : Int32} (h : vp_in x1 9 ∧ vp_in x1 9 ∧ vp_in x1 9 ∧ vp_in x1 9 ∧ Q none (hp (pm_up (pm_up (pm_up (pm_up I 43 ((x1 : Int32).toNatClampNeg) 0) 44 ((x1 : Int32).toNatClampNeg) 0) 45 ((x1 : Int32).toNatClampNeg) 0) 46 ((x1 : Int32).toNatClampNeg) 0) J (pm_RT pa pb ga))) : Px k 176 m_Pr_cleanFilms 0 [.ref 39, .int x1] [] (hp I J (pm_RT pa pb ga)) Q := by
  refine x_l 1 rfl rfl rfl ?_
  refine z_gf 4 (.ref 43) rfl ⟨rfl, rfl, rfl⟩ rfl rfl ?_
  refine x_l 5 rfl rfl rfl ?_
  refine z_k 6 0 rfl (by decide) rfl ?_
  have h1 := h.1
  have h := h.2
  refine z_is 7 9 rfl ⟨rfl, rfl, rfl⟩ rfl h1 rfl ?_
  refine x_l 8 rfl rfl rfl ?_
  refine z_gf 11 (.ref 44) rfl ⟨rfl, rfl, rfl⟩ rfl rfl ?_
  refine x_l 12 rfl rfl rfl ?_
  refine z_k 13 0 rfl (by decide) rfl ?_
  have h1 := h.1
  have h := h.2
  refine z_is 14 9 rfl ⟨rfl, rfl, rfl⟩ rfl h1 rfl ?_
  refine x_l 15 rfl rfl rfl ?_
  refine z_gf 18 (.ref 45) rfl ⟨rfl, rfl, rfl⟩ rfl rfl ?_
  refine x_l 19 rfl rfl rfl ?_
  refine z_k 20 0 rfl (by decide) rfl ?_
  have h1 := h.1
  have h := h.2
  refine z_is 21 9 rfl ⟨rfl, rfl, rfl⟩ rfl h1 rfl ?_
  refine x_l 22 rfl rfl rfl ?_
  refine z_gf 25 (.ref 46) rfl ⟨rfl, rfl, rfl⟩ rfl rfl ?_
  refine x_l 26 rfl rfl rfl ?_
  refine z_k 27 0 rfl (by decide) rfl ?_
  have h1 := h.1
  have h := h.2
  refine z_is 28 9 rfl ⟨rfl, rfl, rfl⟩ rfl h1 rfl ?_
  exact x_rv rfl rfl h

theorem bk_Pr_turnKey_0 {k : Nat} {pa pb : Nat} {ga : Nat → Nat} {I : pm_II} {J : pm_JJ} {Q : Option Value → pm_H → Prop} {x1 : Int32} {x2 : Int32} (h : ((x1 < 0 → Q (some (.int (-1))) (hp I J (pm_RT pa pb ga))) ∧ (¬ (x1 < 0) → ((8 ≤ x1 → Q (some (.int (-1))) (hp I J (pm_RT pa pb ga))) ∧ (¬ (8 ≤ x1) → ((x2 < 0 → Q (some (.int (-1))) (hp I J (pm_RT pa pb ga))) ∧ (¬ (x2 < 0) → ((x2 ≤ 255 → vp_in x1 9 ∧ vp_in x1 9 ∧ Q (some (.int (I 40 ((x1 : Int32).toNatClampNeg)))) (hp (pm_up I 40 ((x1 : Int32).toNatClampNeg) x2) J (pm_RT pa pb ga))) ∧ (¬ (x2 ≤ 255) → Q (some (.int (-1))) (hp I J (pm_RT pa pb ga))))))))))) : Px k 176 m_Pr_turnKey 0 [.ref 39, .int x1, .int x2, .null] [] (hp I J (pm_RT pa pb ga)) Q := by
  refine x_l 1 rfl rfl rfl ?_
  refine x_b 4 rfl rfl rfl (fun c => ?_) (fun c => ?_)
  · have h := h.1 c
    refine z_k 22 (-1) rfl (by decide) rfl ?_
    exact x_ri rfl (Or.inl rfl) h
  · have h := h.2 c
    refine x_l 5 rfl rfl rfl ?_
    refine z_k 7 8 rfl (by decide) rfl ?_
    refine x_b 10 rfl rfl rfl (fun c => ?_) (fun c => ?_)
    · have h := h.1 c
      refine z_k 22 (-1) rfl (by decide) rfl ?_
      exact x_ri rfl (Or.inl rfl) h
    · have h := h.2 c
      refine x_l 11 rfl rfl rfl ?_
      refine x_b 14 rfl rfl rfl (fun c => ?_) (fun c => ?_)
      · have h := h.1 c
        refine z_k 22 (-1) rfl (by decide) rfl ?_
        exact x_ri rfl (Or.inl rfl) h
      · have h := h.2 c
        refine x_l 15 rfl rfl rfl ?_
        refine z_k 18 255 rfl (by decide) rfl ?_
        refine x_b 21 rfl rfl rfl (fun c => ?_) (fun c => ?_)
        · have h := h.1 c
          refine x_l 24 rfl rfl rfl ?_
          refine z_gf 27 (.ref 40) rfl ⟨rfl, rfl, rfl⟩ rfl rfl ?_
          refine x_l 28 rfl rfl rfl ?_
          have h1 := h.1
          have h := h.2
          refine z_il 29 9 rfl ⟨rfl, rfl, rfl⟩ rfl h1 rfl ?_
          refine x_t 30 rfl rfl rfl ?_
          refine x_l 31 rfl rfl rfl ?_
          refine z_gf 34 (.ref 40) rfl ⟨rfl, rfl, rfl⟩ rfl rfl ?_
          refine x_l 35 rfl rfl rfl ?_
          refine x_l 36 rfl rfl rfl ?_
          have h1 := h.1
          have h := h.2
          refine z_is 37 9 rfl ⟨rfl, rfl, rfl⟩ rfl h1 rfl ?_
          refine x_l 38 rfl rfl rfl ?_
          exact x_ri rfl (Or.inl rfl) h
        · have h := h.2 c
          refine z_k 22 (-1) rfl (by decide) rfl ?_
          exact x_ri rfl (Or.inl rfl) h

theorem bk_Pr_aimAt_0 {k : Nat} {pa pb : Nat} {ga : Nat → Nat} {I : pm_II} {J : pm_JJ} {Q : Option Value → pm_H → Prop} {x1 : Int32} {x2 : Int32} {x3 : Int32} (h : ((x1 < 0 → Q (some (.int (-1))) (hp I J (pm_RT pa pb ga))) ∧ (¬ (x1 < 0) → ((4000 < x1 → Q (some (.int (-1))) (hp I J (pm_RT pa pb ga))) ∧ (¬ (4000 < x1) → ((x2 < 0 → Q (some (.int (-1))) (hp I J (pm_RT pa pb ga))) ∧ (¬ (x2 < 0) → ((x2 ≤ 400 → ((x3 < 0 → Q (some (.int (-1))) (hp I J (pm_RT pa pb ga))) ∧ (¬ (x3 < 0) → ((x3 ≤ 99 → Q (some (.int 1)) (hp (pm_up (pm_up (pm_up I 39 9 x1) 39 10 x2) 39 11 x3) J (pm_RT pa pb ga))) ∧ (¬ (x3 ≤ 99) → Q (some (.int (-1))) (hp I J (pm_RT pa pb ga))))))) ∧ (¬ (x2 ≤ 400) → Q (some (.int (-1))) (hp I J (pm_RT pa pb ga))))))))))) : Px k 176 m_Pr_aimAt 0 [.ref 39, .int x1, .int x2, .int x3] [] (hp I J (pm_RT pa pb ga)) Q := by
  refine x_l 1 rfl rfl rfl ?_
  refine x_b 4 rfl rfl rfl (fun c => ?_) (fun c => ?_)
  · have h := h.1 c
    refine z_k 23 (-1) rfl (by decide) rfl ?_
    exact x_ri rfl (Or.inl rfl) h
  · have h := h.2 c
    refine x_l 5 rfl rfl rfl ?_
    refine z_k 8 4000 rfl (by decide) rfl ?_
    refine x_b 11 rfl rfl rfl (fun c => ?_) (fun c => ?_)
    · have h := h.1 c
      refine z_k 23 (-1) rfl (by decide) rfl ?_
      exact x_ri rfl (Or.inl rfl) h
    · have h := h.2 c
      refine x_l 12 rfl rfl rfl ?_
      refine x_b 15 rfl rfl rfl (fun c => ?_) (fun c => ?_)
      · have h := h.1 c
        refine z_k 23 (-1) rfl (by decide) rfl ?_
        exact x_ri rfl (Or.inl rfl) h
      · have h := h.2 c
        refine x_l 16 rfl rfl rfl ?_
        refine z_k 19 400 rfl (by decide) rfl ?_
        refine x_b 22 rfl rfl rfl (fun c => ?_) (fun c => ?_)
        · have h := h.1 c
          refine x_l 25 rfl rfl rfl ?_
          refine x_b 28 rfl rfl rfl (fun c => ?_) (fun c => ?_)
          · have h := h.1 c
            refine z_k 35 (-1) rfl (by decide) rfl ?_
            exact x_ri rfl (Or.inl rfl) h
          · have h := h.2 c
            refine x_l 29 rfl rfl rfl ?_
            refine z_k 31 99 rfl (by decide) rfl ?_
            refine x_b 34 rfl rfl rfl (fun c => ?_) (fun c => ?_)
            · have h := h.1 c
              refine x_l 37 rfl rfl rfl ?_
              refine x_l 38 rfl rfl rfl ?_
              refine z_pi 41 rfl (Or.inl rfl) rfl (fun z => by cases z) ⟨rfl, rfl, rfl⟩ rfl ?_
              refine x_l 42 rfl rfl rfl ?_
              refine x_l 43 rfl rfl rfl ?_
              refine z_pi 46 rfl (Or.inl rfl) rfl (fun z => by cases z) ⟨rfl, rfl, rfl⟩ rfl ?_
              refine x_l 47 rfl rfl rfl ?_
              refine x_l 48 rfl rfl rfl ?_
              refine z_pi 51 rfl (Or.inl rfl) rfl (fun z => by cases z) ⟨rfl, rfl, rfl⟩ rfl ?_
              refine z_k 52 1 rfl (by decide) rfl ?_
              exact x_ri rfl (Or.inl rfl) h
            · have h := h.2 c
              refine z_k 35 (-1) rfl (by decide) rfl ?_
              exact x_ri rfl (Or.inl rfl) h
        · have h := h.2 c
          refine z_k 23 (-1) rfl (by decide) rfl ?_
          exact x_ri rfl (Or.inl rfl) h

theorem bk_Pr_settledKey_0 {k : Nat} {pa pb : Nat} {ga : Nat → Nat} {I : pm_II} {J : pm_JJ} {Q : Option Value → pm_H → Prop} {x1 : Int32} (h : ((x1 < 0 → Q (some (.int (-1))) (hp I J (pm_RT pa pb ga))) ∧ (¬ (x1 < 0) → ((x1 < (I 39 8) → vp_in x1 9 ∧ ((¬ (I 41 ((x1 : Int32).toNatClampNeg)) = 0 → vp_in x1 9 ∧ Px (k + 1) 176 m_Pr_settledKey 47 [.ref 39, .int x1, .int 0, .int 255, .int 0, .null] [] (hp (pm_up I 42 8 (I 42 ((x1 : Int32).toNatClampNeg))) J (pm_RT pa pb ga)) Q) ∧ (¬ (¬ (I 41 ((x1 : Int32).toNatClampNeg)) = 0) → Q (some (.int 0)) (hp I J (pm_RT pa pb ga))))) ∧ (¬ (x1 < (I 39 8)) → Q (some (.int (-1))) (hp I J (pm_RT pa pb ga))))))) : Px (k + 1) 176 m_Pr_settledKey 0 [.ref 39, .int x1, .null, .null, .null, .null] [] (hp I J (pm_RT pa pb ga)) Q := by
  refine x_l 1 rfl rfl rfl ?_
  refine x_b 4 rfl rfl rfl (fun c => ?_) (fun c => ?_)
  · have h := h.1 c
    refine z_k 13 (-1) rfl (by decide) rfl ?_
    exact x_ri rfl (Or.inl rfl) h
  · have h := h.2 c
    refine x_l 5 rfl rfl rfl ?_
    refine x_l 6 rfl rfl rfl ?_
    refine z_gf 9 (.int (I 39 8)) rfl ⟨rfl, rfl, rfl⟩ rfl rfl ?_
    refine x_b 12 rfl rfl rfl (fun c => ?_) (fun c => ?_)
    · have h := h.1 c
      refine x_l 15 rfl rfl rfl ?_
      refine z_gf 18 (.ref 41) rfl ⟨rfl, rfl, rfl⟩ rfl rfl ?_
      refine x_l 19 rfl rfl rfl ?_
      have h1 := h.1
      have h := h.2
      refine z_il 20 9 rfl ⟨rfl, rfl, rfl⟩ rfl h1 rfl ?_
      refine x_b 23 rfl rfl rfl (fun c => ?_) (fun c => ?_)
      · have h := h.1 c
        refine x_l 26 rfl rfl rfl ?_
        refine z_gf 29 (.ref 42) rfl ⟨rfl, rfl, rfl⟩ rfl rfl ?_
        refine z_k 31 8 rfl (by decide) rfl ?_
        refine x_l 32 rfl rfl rfl ?_
        refine z_gf 35 (.ref 42) rfl ⟨rfl, rfl, rfl⟩ rfl rfl ?_
        refine x_l 36 rfl rfl rfl ?_
        have h1 := h.1
        have h := h.2
        refine z_il 37 9 rfl ⟨rfl, rfl, rfl⟩ rfl h1 rfl ?_
        refine z_is 38 9 rfl ⟨rfl, rfl, rfl⟩ rfl (by unfold vp_in; decide) rfl ?_
        refine z_k 39 0 rfl (by decide) rfl ?_
        refine x_t 40 rfl rfl rfl ?_
        refine z_k 43 255 rfl (by decide) rfl ?_
        refine x_t 44 rfl rfl rfl ?_
        refine z_k 45 0 rfl (by decide) rfl ?_
        refine x_t 47 rfl rfl rfl ?_
        exact h
      · have h := h.2 c
        refine z_k 24 0 rfl (by decide) rfl ?_
        exact x_ri rfl (Or.inl rfl) h
    · have h := h.2 c
      refine z_k 13 (-1) rfl (by decide) rfl ?_
      exact x_ri rfl (Or.inl rfl) h

theorem bk_Pr_settledKey_47 {k : Nat} {pa pb : Nat} {ga : Nat → Nat} {I : pm_II} {J : pm_JJ} {Q : Option Value → pm_H → Prop} {x1 : Int32} {x2 : Int32} {x3 : Int32} {x4 : Int32} (h : ((8 ≤ x4 → Px (k + 1) 176 m_Pr_settledKey 96 [.ref 39, .int x1, .int x2, .int x3, .int x4, .null] [] (hp I J (pm_RT pa pb ga)) Q) ∧ (¬ (8 ≤ x4) → ((x3 ≤ x2 → Px (k + 1) 176 m_Pr_settledKey 96 [.ref 39, .int x1, .int x2, .int x3, .int x4, .null] [] (hp I J (pm_RT pa pb ga)) Q) ∧ (¬ (x3 ≤ x2) → Px k 176 m_Pr_trialDensity 0 [.ref 39, .int ((x2 + x3) / 2), .null] [] (hp I J (pm_RT pa pb ga)) (fun r h' => h'.1 = 176 ∧ Px (k + 1) 176 m_Pr_settledKey 72 [.ref 39, .int x1, .int x2, .int x3, .int x4, .int ((x2 + x3) / 2)] (r.toList ++ []) h' Q)))))) : Px (k + 1) 176 m_Pr_settledKey 47 [.ref 39, .int x1, .int x2, .int x3, .int x4, .null] [] (hp I J (pm_RT pa pb ga)) Q := by
  refine x_l 49 rfl rfl rfl ?_
  refine z_k 51 8 rfl (by decide) rfl ?_
  refine x_b 54 rfl rfl rfl (fun c => ?_) (fun c => ?_)
  · have h := h.1 c
    exact h
  · have h := h.2 c
    refine x_l 55 rfl rfl rfl ?_
    refine x_l 56 rfl rfl rfl ?_
    refine x_b 59 rfl rfl rfl (fun c => ?_) (fun c => ?_)
    · have h := h.1 c
      exact h
    · have h := h.2 c
      refine x_l 60 rfl rfl rfl ?_
      refine x_l 61 rfl rfl rfl ?_
      refine x_s 62 rfl rfl rfl ?_
      refine z_k 63 2 rfl (by decide) rfl ?_
      refine x_dv 64 rfl (by decide) rfl ?_
      refine x_t 66 rfl rfl rfl ?_
      refine x_l 67 rfl rfl rfl ?_
      refine x_l 69 rfl rfl rfl ?_
      exact z_cv (As := [.int ((x2 + x3) / 2)]) (rest := []) (b := 39) rfl at_Pr_trialDensity rfl rfl (Nat.le_of_ble_eq_true rfl) (Nat.le_of_ble_eq_true rfl) ⟨rfl, rfl, rfl⟩ (by decide) rfl h

theorem bk_Pr_settledKey_72 {k : Nat} {pa pb : Nat} {ga : Nat → Nat} {I : pm_II} {J : pm_JJ} {Q : Option Value → pm_H → Prop} {x1 : Int32} {x2 : Int32} {x3 : Int32} {x4 : Int32} {x5 : Int32} {s0 : Int32} (h : ((s0 < (I 39 9) → Px (k + 1) 176 m_Pr_settledKey 47 [.ref 39, .int x1, .int (x5 + (1 : Int32)), .int x3, .int (x4 + Int32.ofInt 1), .int x5] [] (hp I J (pm_RT pa pb ga)) Q) ∧ (¬ (s0 < (I 39 9)) → Px (k + 1) 176 m_Pr_settledKey 47 [.ref 39, .int x1, .int x2, .int x5, .int (x4 + Int32.ofInt 1), .int x5] [] (hp I J (pm_RT pa pb ga)) Q))) : Px (k + 1) 176 m_Pr_settledKey 72 [.ref 39, .int x1, .int x2, .int x3, .int x4, .int x5] [.int s0] (hp I J (pm_RT pa pb ga)) Q := by
  refine x_l 73 rfl rfl rfl ?_
  refine z_gf 76 (.int (I 39 9)) rfl ⟨rfl, rfl, rfl⟩ rfl rfl ?_
  refine x_b 79 rfl rfl rfl (fun c => ?_) (fun c => ?_)
  · have h := h.1 c
    refine x_l 87 rfl rfl rfl ?_
    refine z_k 88 1 rfl (by decide) rfl ?_
    refine x_s 89 rfl rfl rfl ?_
    refine x_t 90 rfl rfl rfl ?_
    refine x_t 93 rfl rfl rfl ?_
    refine x_g rfl ?_
    exact h
  · have h := h.2 c
    refine x_l 81 rfl rfl rfl ?_
    refine x_t 82 rfl rfl rfl ?_
    refine x_g rfl ?_
    refine x_t 93 rfl rfl rfl ?_
    refine x_g rfl ?_
    exact h

theorem bk_Pr_settledKey_96 {k : Nat} {pa pb : Nat} {ga : Nat → Nat} {I : pm_II} {J : pm_JJ} {Q : Option Value → pm_H → Prop} {x1 : Int32} {x2 : Int32} {x3 : Int32} {x4 : Int32} (h : Q (some (.int x2)) (hp I J (pm_RT pa pb ga))) : Px (k + 1) 176 m_Pr_settledKey 96 [.ref 39, .int x1, .int x2, .int x3, .int x4, .null] [] (hp I J (pm_RT pa pb ga)) Q := by
  refine x_l 97 rfl rfl rfl ?_
  exact x_ri rfl (Or.inl rfl) h

theorem bk_Pr_trialDensity_0 {k : Nat} {pa pb : Nat} {ga : Nat → Nat} {I : pm_II} {J : pm_JJ} {Q : Option Value → pm_H → Prop} {x1 : Int32} (h : Px k 176 m_Pr_cleanFilms 0 [.ref 39, .int 8] [] (hp (pm_up I 40 8 x1) J (pm_RT pa pb ga)) (fun r h' => h'.1 = 176 ∧ Px (k + 1) 176 m_Pr_trialDensity 14 [.ref 39, .int x1, .null] (r.toList ++ []) h' Q)) : Px (k + 1) 176 m_Pr_trialDensity 0 [.ref 39, .int x1, .null] [] (hp I J (pm_RT pa pb ga)) Q := by
  refine x_l 1 rfl rfl rfl ?_
  refine z_gf 4 (.ref 40) rfl ⟨rfl, rfl, rfl⟩ rfl rfl ?_
  refine z_k 6 8 rfl (by decide) rfl ?_
  refine x_l 7 rfl rfl rfl ?_
  refine z_is 8 9 rfl ⟨rfl, rfl, rfl⟩ rfl (by unfold vp_in; decide) rfl ?_
  refine x_l 9 rfl rfl rfl ?_
  refine z_k 11 8 rfl (by decide) rfl ?_
  exact z_cv (As := [.int 8]) (rest := []) (b := 39) rfl at_Pr_cleanFilms rfl rfl (Nat.le_of_ble_eq_true rfl) (Nat.le_of_ble_eq_true rfl) ⟨rfl, rfl, rfl⟩ (by decide) rfl h

theorem bk_Pr_trialDensity_14 {k : Nat} {pa pb : Nat} {ga : Nat → Nat} {I : pm_II} {J : pm_JJ} {Q : Option Value → pm_H → Prop} {x1 : Int32} (h : Px (k + 1) 176 m_Pr_trialDensity 16 [.ref 39, .int x1, .int 0] [] (hp I J (pm_RT pa pb ga)) Q) : Px (k + 1) 176 m_Pr_trialDensity 14 [.ref 39, .int x1, .null] [] (hp I J (pm_RT pa pb ga)) Q := by
  refine z_k 15 0 rfl (by decide) rfl ?_
  refine x_t 16 rfl rfl rfl ?_
  exact h

theorem bk_Pr_trialDensity_16 {k : Nat} {pa pb : Nat} {ga : Nat → Nat} {I : pm_II} {J : pm_JJ} {Q : Option Value → pm_H → Prop} {x1 : Int32} {x2 : Int32} (h : ((40 ≤ x2 → Q (some (.int (I 45 8))) (hp I J (pm_RT pa pb ga))) ∧ (¬ (40 ≤ x2) → Px k 176 m_Pr_ink 0 [.ref 39, .int 8, .null] [] (hp I J (pm_RT pa pb ga)) (fun r h' => h'.1 = 176 ∧ Px (k + 1) 176 m_Pr_trialDensity 28 [.ref 39, .int x1, .int x2] (r.toList ++ []) h' Q)))) : Px (k + 1) 176 m_Pr_trialDensity 16 [.ref 39, .int x1, .int x2] [] (hp I J (pm_RT pa pb ga)) Q := by
  refine x_l 17 rfl rfl rfl ?_
  refine z_k 19 40 rfl (by decide) rfl ?_
  refine x_b 22 rfl rfl rfl (fun c => ?_) (fun c => ?_)
  · have h := h.1 c
    refine x_l 35 rfl rfl rfl ?_
    refine z_gf 38 (.ref 45) rfl ⟨rfl, rfl, rfl⟩ rfl rfl ?_
    refine z_k 40 8 rfl (by decide) rfl ?_
    refine z_il 41 9 rfl ⟨rfl, rfl, rfl⟩ rfl (by unfold vp_in; decide) rfl ?_
    exact x_ri rfl (Or.inl rfl) h
  · have h := h.2 c
    refine x_l 23 rfl rfl rfl ?_
    refine z_k 25 8 rfl (by decide) rfl ?_
    exact z_cv (As := [.int 8]) (rest := []) (b := 39) rfl at_Pr_ink rfl rfl (Nat.le_of_ble_eq_true rfl) (Nat.le_of_ble_eq_true rfl) ⟨rfl, rfl, rfl⟩ (by decide) rfl h

theorem bk_Pr_trialDensity_28 {k : Nat} {pa pb : Nat} {ga : Nat → Nat} {I : pm_II} {J : pm_JJ} {Q : Option Value → pm_H → Prop} {x1 : Int32} {x2 : Int32} (h : Px (k + 1) 176 m_Pr_trialDensity 16 [.ref 39, .int x1, .int (x2 + Int32.ofInt 1)] [] (hp I J (pm_RT pa pb ga)) Q) : Px (k + 1) 176 m_Pr_trialDensity 28 [.ref 39, .int x1, .int x2] [] (hp I J (pm_RT pa pb ga)) Q := by
  refine x_t 31 rfl rfl rfl ?_
  refine x_g rfl ?_
  exact h

theorem bk_Pr_ink_0 {k : Nat} {pa pb : Nat} {ga : Nat → Nat} {I : pm_II} {J : pm_JJ} {Q : Option Value → pm_H → Prop} {x1 : Int32} (h : vp_in x1 9 ∧ vp_in x1 9 ∧ vp_in x1 9 ∧ vp_in x1 9 ∧ vp_in x1 9 ∧ Px k 176 m_Jm_floorDiv_II 0 [.int (((pm_up I 43 ((x1 : Int32).toNatClampNeg) ((I 43 ((x1 : Int32).toNatClampNeg)) + ((16 : Int32) * (I 40 ((x1 : Int32).toNatClampNeg))))) 43 ((x1 : Int32).toNatClampNeg)) - (I 44 ((x1 : Int32).toNatClampNeg))), .int 3, .null] [] (hp (pm_up I 43 ((x1 : Int32).toNatClampNeg) ((I 43 ((x1 : Int32).toNatClampNeg)) + ((16 : Int32) * (I 40 ((x1 : Int32).toNatClampNeg))))) J (pm_RT pa pb ga)) (fun r h' => h'.1 = 176 ∧ Px (k + 1) 176 m_Pr_ink 35 [.ref 39, .int x1, .null] (r.toList ++ []) h' Q)) : Px (k + 1) 176 m_Pr_ink 0 [.ref 39, .int x1, .null] [] (hp I J (pm_RT pa pb ga)) Q := by
  refine x_l 1 rfl rfl rfl ?_
  refine z_gf 4 (.ref 43) rfl ⟨rfl, rfl, rfl⟩ rfl rfl ?_
  refine x_l 5 rfl rfl rfl ?_
  refine x_s 6 rfl rfl rfl ?_
  have h1 := h.1
  have h := h.2
  refine z_il 7 9 rfl ⟨rfl, rfl, rfl⟩ rfl h1 rfl ?_
  refine z_k 9 16 rfl (by decide) rfl ?_
  refine x_l 10 rfl rfl rfl ?_
  refine z_gf 13 (.ref 40) rfl ⟨rfl, rfl, rfl⟩ rfl rfl ?_
  refine x_l 14 rfl rfl rfl ?_
  have h1 := h.1
  have h := h.2
  refine z_il 15 9 rfl ⟨rfl, rfl, rfl⟩ rfl h1 rfl ?_
  refine x_s 16 rfl rfl rfl ?_
  refine x_s 17 rfl rfl rfl ?_
  have h1 := h.1
  have h := h.2
  refine z_is 18 9 rfl ⟨rfl, rfl, rfl⟩ rfl h1 rfl ?_
  refine x_l 19 rfl rfl rfl ?_
  refine z_gf 22 (.ref 43) rfl ⟨rfl, rfl, rfl⟩ rfl rfl ?_
  refine x_l 23 rfl rfl rfl ?_
  have h1 := h.1
  have h := h.2
  refine z_il 24 9 rfl ⟨rfl, rfl, rfl⟩ rfl h1 rfl ?_
  refine x_l 25 rfl rfl rfl ?_
  refine z_gf 28 (.ref 44) rfl ⟨rfl, rfl, rfl⟩ rfl rfl ?_
  refine x_l 29 rfl rfl rfl ?_
  have h1 := h.1
  have h := h.2
  refine z_il 30 9 rfl ⟨rfl, rfl, rfl⟩ rfl h1 rfl ?_
  refine x_s 31 rfl rfl rfl ?_
  refine z_k 32 3 rfl (by decide) rfl ?_
  exact z_cs (As := [.int (((pm_up I 43 ((x1 : Int32).toNatClampNeg) ((I 43 ((x1 : Int32).toNatClampNeg)) + ((16 : Int32) * (I 40 ((x1 : Int32).toNatClampNeg))))) 43 ((x1 : Int32).toNatClampNeg)) - (I 44 ((x1 : Int32).toNatClampNeg))), .int 3]) (rest := []) rfl at_Jm_floorDiv_II rfl rfl (Nat.le_of_ble_eq_true rfl) (Nat.le_of_ble_eq_true rfl) rfl h

theorem bk_Pr_ink_35 {k : Nat} {pa pb : Nat} {ga : Nat → Nat} {I : pm_II} {J : pm_JJ} {Q : Option Value → pm_H → Prop} {x1 : Int32} {s0 : Int32} (h : vp_in x1 9 ∧ vp_in x1 9 ∧ vp_in x1 9 ∧ vp_in x1 9 ∧ vp_in x1 9 ∧ vp_in x1 9 ∧ Px k 176 m_Jm_floorDiv_II 0 [.int (((pm_up (pm_up I 43 ((x1 : Int32).toNatClampNeg) ((I 43 ((x1 : Int32).toNatClampNeg)) - s0)) 44 ((x1 : Int32).toNatClampNeg) ((I 44 ((x1 : Int32).toNatClampNeg)) + s0)) 44 ((x1 : Int32).toNatClampNeg)) * (I 42 ((x1 : Int32).toNatClampNeg))), .int 512, .null] [] (hp (pm_up (pm_up I 43 ((x1 : Int32).toNatClampNeg) ((I 43 ((x1 : Int32).toNatClampNeg)) - s0)) 44 ((x1 : Int32).toNatClampNeg) ((I 44 ((x1 : Int32).toNatClampNeg)) + s0)) J (pm_RT pa pb ga)) (fun r h' => h'.1 = 176 ∧ Px (k + 1) 176 m_Pr_ink 80 [.ref 39, .int x1, .int s0] (r.toList ++ [.int x1, .ref 45]) h' Q)) : Px (k + 1) 176 m_Pr_ink 35 [.ref 39, .int x1, .null] [.int s0] (hp I J (pm_RT pa pb ga)) Q := by
  refine x_t 36 rfl rfl rfl ?_
  refine x_l 37 rfl rfl rfl ?_
  refine z_gf 40 (.ref 43) rfl ⟨rfl, rfl, rfl⟩ rfl rfl ?_
  refine x_l 41 rfl rfl rfl ?_
  refine x_s 42 rfl rfl rfl ?_
  have h1 := h.1
  have h := h.2
  refine z_il 43 9 rfl ⟨rfl, rfl, rfl⟩ rfl h1 rfl ?_
  refine x_l 44 rfl rfl rfl ?_
  refine x_s 45 rfl rfl rfl ?_
  have h1 := h.1
  have h := h.2
  refine z_is 46 9 rfl ⟨rfl, rfl, rfl⟩ rfl h1 rfl ?_
  refine x_l 47 rfl rfl rfl ?_
  refine z_gf 50 (.ref 44) rfl ⟨rfl, rfl, rfl⟩ rfl rfl ?_
  refine x_l 51 rfl rfl rfl ?_
  refine x_s 52 rfl rfl rfl ?_
  have h1 := h.1
  have h := h.2
  refine z_il 53 9 rfl ⟨rfl, rfl, rfl⟩ rfl h1 rfl ?_
  refine x_l 54 rfl rfl rfl ?_
  refine x_s 55 rfl rfl rfl ?_
  have h1 := h.1
  have h := h.2
  refine z_is 56 9 rfl ⟨rfl, rfl, rfl⟩ rfl h1 rfl ?_
  refine x_l 57 rfl rfl rfl ?_
  refine z_gf 60 (.ref 45) rfl ⟨rfl, rfl, rfl⟩ rfl rfl ?_
  refine x_l 61 rfl rfl rfl ?_
  refine x_l 62 rfl rfl rfl ?_
  refine z_gf 65 (.ref 44) rfl ⟨rfl, rfl, rfl⟩ rfl rfl ?_
  refine x_l 66 rfl rfl rfl ?_
  have h1 := h.1
  have h := h.2
  refine z_il 67 9 rfl ⟨rfl, rfl, rfl⟩ rfl h1 rfl ?_
  refine x_l 68 rfl rfl rfl ?_
  refine z_gf 71 (.ref 42) rfl ⟨rfl, rfl, rfl⟩ rfl rfl ?_
  refine x_l 72 rfl rfl rfl ?_
  have h1 := h.1
  have h := h.2
  refine z_il 73 9 rfl ⟨rfl, rfl, rfl⟩ rfl h1 rfl ?_
  refine x_s 74 rfl rfl rfl ?_
  refine z_k 77 512 rfl (by decide) rfl ?_
  exact z_cs (As := [.int (((pm_up (pm_up I 43 ((x1 : Int32).toNatClampNeg) ((I 43 ((x1 : Int32).toNatClampNeg)) - s0)) 44 ((x1 : Int32).toNatClampNeg) ((I 44 ((x1 : Int32).toNatClampNeg)) + s0)) 44 ((x1 : Int32).toNatClampNeg)) * (I 42 ((x1 : Int32).toNatClampNeg))), .int 512]) (rest := [.int x1, .ref 45]) rfl at_Jm_floorDiv_II rfl rfl (Nat.le_of_ble_eq_true rfl) (Nat.le_of_ble_eq_true rfl) rfl h

theorem bk_Pr_ink_80 {k : Nat} {pa pb : Nat} {ga : Nat → Nat} {I : pm_II} {J : pm_JJ} {Q : Option Value → pm_H → Prop} {x1 : Int32} {x2 : Int32} {s1 : Int32} {s2 : Int32} (h : vp_in s1 9 ∧ vp_in x1 9 ∧ vp_in x1 9 ∧ vp_in x1 9 ∧ vp_in x1 9 ∧ vp_in x1 9 ∧ vp_in x1 9 ∧ Q none (hp (pm_up (pm_up (pm_up I 45 ((s1 : Int32).toNatClampNeg) s2) 44 ((x1 : Int32).toNatClampNeg) ((I 44 ((x1 : Int32).toNatClampNeg)) - ((pm_up I 45 ((s1 : Int32).toNatClampNeg) s2) 45 ((x1 : Int32).toNatClampNeg)))) 46 ((x1 : Int32).toNatClampNeg) ((I 46 ((x1 : Int32).toNatClampNeg)) + ((pm_up I 45 ((s1 : Int32).toNatClampNeg) s2) 45 ((x1 : Int32).toNatClampNeg)))) J (pm_RT pa pb ga))) : Px (k + 1) 176 m_Pr_ink 80 [.ref 39, .int x1, .int x2] [.int s2, .int s1, .ref 45] (hp I J (pm_RT pa pb ga)) Q := by
  have h1 := h.1
  have h := h.2
  refine z_is 81 9 rfl ⟨rfl, rfl, rfl⟩ rfl h1 rfl ?_
  refine x_l 82 rfl rfl rfl ?_
  refine z_gf 85 (.ref 44) rfl ⟨rfl, rfl, rfl⟩ rfl rfl ?_
  refine x_l 86 rfl rfl rfl ?_
  refine x_s 87 rfl rfl rfl ?_
  have h1 := h.1
  have h := h.2
  refine z_il 88 9 rfl ⟨rfl, rfl, rfl⟩ rfl h1 rfl ?_
  refine x_l 89 rfl rfl rfl ?_
  refine z_gf 92 (.ref 45) rfl ⟨rfl, rfl, rfl⟩ rfl rfl ?_
  refine x_l 93 rfl rfl rfl ?_
  have h1 := h.1
  have h := h.2
  refine z_il 94 9 rfl ⟨rfl, rfl, rfl⟩ rfl h1 rfl ?_
  refine x_s 95 rfl rfl rfl ?_
  have h1 := h.1
  have h := h.2
  refine z_is 96 9 rfl ⟨rfl, rfl, rfl⟩ rfl h1 rfl ?_
  refine x_l 97 rfl rfl rfl ?_
  refine z_gf 100 (.ref 46) rfl ⟨rfl, rfl, rfl⟩ rfl rfl ?_
  refine x_l 101 rfl rfl rfl ?_
  refine x_s 102 rfl rfl rfl ?_
  have h1 := h.1
  have h := h.2
  refine z_il 103 9 rfl ⟨rfl, rfl, rfl⟩ rfl h1 rfl ?_
  refine x_l 104 rfl rfl rfl ?_
  refine z_gf 107 (.ref 45) rfl ⟨rfl, rfl, rfl⟩ rfl rfl ?_
  refine x_l 108 rfl rfl rfl ?_
  have h1 := h.1
  have h := h.2
  refine z_il 109 9 rfl ⟨rfl, rfl, rfl⟩ rfl h1 rfl ?_
  refine x_s 110 rfl rfl rfl ?_
  have h1 := h.1
  have h := h.2
  refine z_is 111 9 rfl ⟨rfl, rfl, rfl⟩ rfl h1 rfl ?_
  exact x_rv rfl rfl h

theorem bk_Pr_printMany_0 {k : Nat} {pa pb : Nat} {ga : Nat → Nat} {I : pm_II} {J : pm_JJ} {Q : Option Value → pm_H → Prop} {x1 : Int32} (h : ((x1 < 0 → Q (some (.int (-1))) (hp I J (pm_RT pa pb ga))) ∧ (¬ (x1 < 0) → ((x1 ≤ 500 → ((¬ (I 39 8) = 0 → ((((I 39 12) + x1) ≤ 4000 → Px (k + 1) 176 m_Pr_printMany 45 [.ref 39, .int x1, .int (I 39 13), .int 0] [] (hp I J (pm_RT pa pb ga)) Q) ∧ (¬ (((I 39 12) + x1) ≤ 4000) → Q (some (.int (-4))) (hp I J (pm_RT pa pb ga))))) ∧ (¬ (¬ (I 39 8) = 0) → Q (some (.int (-3))) (hp I J (pm_RT pa pb ga))))) ∧ (¬ (x1 ≤ 500) → Q (some (.int (-1))) (hp I J (pm_RT pa pb ga))))))) : Px (k + 1) 176 m_Pr_printMany 0 [.ref 39, .int x1, .null, .null] [] (hp I J (pm_RT pa pb ga)) Q := by
  refine x_l 1 rfl rfl rfl ?_
  refine x_b 4 rfl rfl rfl (fun c => ?_) (fun c => ?_)
  · have h := h.1 c
    refine z_k 12 (-1) rfl (by decide) rfl ?_
    exact x_ri rfl (Or.inl rfl) h
  · have h := h.2 c
    refine x_l 5 rfl rfl rfl ?_
    refine z_k 8 500 rfl (by decide) rfl ?_
    refine x_b 11 rfl rfl rfl (fun c => ?_) (fun c => ?_)
    · have h := h.1 c
      refine x_l 14 rfl rfl rfl ?_
      refine z_gf 17 (.int (I 39 8)) rfl ⟨rfl, rfl, rfl⟩ rfl rfl ?_
      refine x_b 20 rfl rfl rfl (fun c => ?_) (fun c => ?_)
      · have h := h.1 c
        refine x_l 24 rfl rfl rfl ?_
        refine z_gf 27 (.int (I 39 12)) rfl ⟨rfl, rfl, rfl⟩ rfl rfl ?_
        refine x_l 28 rfl rfl rfl ?_
        refine x_s 29 rfl rfl rfl ?_
        refine z_k 32 4000 rfl (by decide) rfl ?_
        refine x_b 35 rfl rfl rfl (fun c => ?_) (fun c => ?_)
        · have h := h.1 c
          refine x_l 39 rfl rfl rfl ?_
          refine z_gf 42 (.int (I 39 13)) rfl ⟨rfl, rfl, rfl⟩ rfl rfl ?_
          refine x_t 43 rfl rfl rfl ?_
          refine z_k 44 0 rfl (by decide) rfl ?_
          refine x_t 45 rfl rfl rfl ?_
          exact h
        · have h := h.2 c
          refine z_k 37 (-4) rfl (by decide) rfl ?_
          exact x_ri rfl (Or.inl rfl) h
      · have h := h.2 c
        refine z_k 22 (-3) rfl (by decide) rfl ?_
        exact x_ri rfl (Or.inl rfl) h
    · have h := h.2 c
      refine z_k 12 (-1) rfl (by decide) rfl ?_
      exact x_ri rfl (Or.inl rfl) h

theorem bk_Pr_printMany_45 {k : Nat} {pa pb : Nat} {ga : Nat → Nat} {I : pm_II} {J : pm_JJ} {Q : Option Value → pm_H → Prop} {x1 : Int32} {x2 : Int32} {x3 : Int32} (h : ((x1 ≤ x3 → Q (some (.int ((I 39 13) - x2))) (hp I J (pm_RT pa pb ga))) ∧ (¬ (x1 ≤ x3) → Px k 176 m_Pr_printSheet 0 [.ref 39, .null, .null] [] (hp I J (pm_RT pa pb ga)) (fun r h' => h'.1 = 176 ∧ Px (k + 1) 176 m_Pr_printMany 54 [.ref 39, .int x1, .int x2, .int x3] (r.toList ++ []) h' Q)))) : Px (k + 1) 176 m_Pr_printMany 45 [.ref 39, .int x1, .int x2, .int x3] [] (hp I J (pm_RT pa pb ga)) Q := by
  refine x_l 46 rfl rfl rfl ?_
  refine x_l 47 rfl rfl rfl ?_
  refine x_b 50 rfl rfl rfl (fun c => ?_) (fun c => ?_)
  · have h := h.1 c
    refine x_l 61 rfl rfl rfl ?_
    refine z_gf 64 (.int (I 39 13)) rfl ⟨rfl, rfl, rfl⟩ rfl rfl ?_
    refine x_l 65 rfl rfl rfl ?_
    refine x_s 66 rfl rfl rfl ?_
    exact x_ri rfl (Or.inl rfl) h
  · have h := h.2 c
    refine x_l 51 rfl rfl rfl ?_
    exact z_cv (As := []) (rest := []) (b := 39) rfl at_Pr_printSheet rfl rfl (Nat.le_of_ble_eq_true rfl) (Nat.le_of_ble_eq_true rfl) ⟨rfl, rfl, rfl⟩ (by decide) rfl h

theorem bk_Pr_printMany_54 {k : Nat} {pa pb : Nat} {ga : Nat → Nat} {I : pm_II} {J : pm_JJ} {Q : Option Value → pm_H → Prop} {x1 : Int32} {x2 : Int32} {x3 : Int32} (h : Px (k + 1) 176 m_Pr_printMany 45 [.ref 39, .int x1, .int x2, .int (x3 + Int32.ofInt 1)] [] (hp I J (pm_RT pa pb ga)) Q) : Px (k + 1) 176 m_Pr_printMany 54 [.ref 39, .int x1, .int x2, .int x3] [] (hp I J (pm_RT pa pb ga)) Q := by
  refine x_t 57 rfl rfl rfl ?_
  refine x_g rfl ?_
  exact h

theorem bk_Pr_printSheet_0 {k : Nat} {pa pb : Nat} {ga : Nat → Nat} {I : pm_II} {J : pm_JJ} {Q : Option Value → pm_H → Prop} (h : Px (k + 1) 176 m_Pr_printSheet 4 [.ref 39, .int 1, .int 0] [] (hp I J (pm_RT pa pb ga)) Q) : Px (k + 1) 176 m_Pr_printSheet 0 [.ref 39, .null, .null] [] (hp I J (pm_RT pa pb ga)) Q := by
  refine z_k 1 1 rfl (by decide) rfl ?_
  refine x_t 2 rfl rfl rfl ?_
  refine z_k 3 0 rfl (by decide) rfl ?_
  refine x_t 4 rfl rfl rfl ?_
  exact h

theorem bk_Pr_printSheet_4 {k : Nat} {pa pb : Nat} {ga : Nat → Nat} {I : pm_II} {J : pm_JJ} {Q : Option Value → pm_H → Prop} {x1 : Int32} {x2 : Int32} (h : (((I 39 8) ≤ x2 → (((I 39 11) ≤ 0 → Px (k + 1) 176 m_Pr_printSheet 86 [.ref 39, .int x1, .int x2] [] (hp (pm_up I 39 12 ((I 39 12) + (1 : Int32))) J (pm_RT pa pb ga)) Q) ∧ (¬ ((I 39 11) ≤ 0) → ¬ (I 39 11) = 0 ∧ ((¬ (((I 39 12) + (1 : Int32)) - ((I 39 12) + (1 : Int32)) / (I 39 11) * (I 39 11)) = 0 → Px (k + 1) 176 m_Pr_printSheet 86 [.ref 39, .int x1, .int x2] [] (hp (pm_up I 39 12 ((I 39 12) + (1 : Int32))) J (pm_RT pa pb ga)) Q) ∧ (¬ (¬ (((I 39 12) + (1 : Int32)) - ((I 39 12) + (1 : Int32)) / (I 39 11) * (I 39 11)) = 0) → Px (k + 1) 176 m_Pr_printSheet 86 [.ref 39, .int 0, .int x2] [] (hp (pm_up I 39 12 ((I 39 12) + (1 : Int32))) J (pm_RT pa pb ga)) Q))))) ∧ (¬ ((I 39 8) ≤ x2) → Px k 176 m_Pr_ink 0 [.ref 39, .int x2, .null] [] (hp I J (pm_RT pa pb ga)) (fun r h' => h'.1 = 176 ∧ Px (k + 1) 176 m_Pr_printSheet 17 [.ref 39, .int x1, .int x2] (r.toList ++ []) h' Q)))) : Px (k + 1) 176 m_Pr_printSheet 4 [.ref 39, .int x1, .int x2] [] (hp I J (pm_RT pa pb ga)) Q := by
  refine x_l 5 rfl rfl rfl ?_
  refine x_l 6 rfl rfl rfl ?_
  refine z_gf 9 (.int (I 39 8)) rfl ⟨rfl, rfl, rfl⟩ rfl rfl ?_
  refine x_b 12 rfl rfl rfl (fun c => ?_) (fun c => ?_)
  · have h := h.1 c
    refine x_l 56 rfl rfl rfl ?_
    refine x_s 57 rfl rfl rfl ?_
    refine z_gf 60 (.int (I 39 12)) rfl ⟨rfl, rfl, rfl⟩ rfl rfl ?_
    refine z_k 61 1 rfl (by decide) rfl ?_
    refine x_s 62 rfl rfl rfl ?_
    refine z_pi 65 rfl (Or.inl rfl) rfl (fun z => by cases z) ⟨rfl, rfl, rfl⟩ rfl ?_
    refine x_l 66 rfl rfl rfl ?_
    refine z_gf 69 (.int (I 39 11)) rfl ⟨rfl, rfl, rfl⟩ rfl rfl ?_
    refine x_b 72 rfl rfl rfl (fun c => ?_) (fun c => ?_)
    · have h := h.1 c
      exact h
    · have h := h.2 c
      refine x_l 73 rfl rfl rfl ?_
      refine z_gf 76 (.int ((I 39 12) + (1 : Int32))) rfl ⟨rfl, rfl, rfl⟩ rfl rfl ?_
      refine x_l 77 rfl rfl rfl ?_
      refine z_gf 80 (.int (I 39 11)) rfl ⟨rfl, rfl, rfl⟩ rfl rfl ?_
      have h0 := h.1
      have h := h.2
      refine x_rm 81 rfl h0 rfl ?_
      refine x_b 84 rfl rfl rfl (fun c => ?_) (fun c => ?_)
      · have h := h.1 c
        exact h
      · have h := h.2 c
        refine z_k 85 0 rfl (by decide) rfl ?_
        refine x_t 86 rfl rfl rfl ?_
        exact h
  · have h := h.2 c
    refine x_l 13 rfl rfl rfl ?_
    refine x_l 14 rfl rfl rfl ?_
    exact z_cv (As := [.int x2]) (rest := []) (b := 39) rfl at_Pr_ink rfl rfl (Nat.le_of_ble_eq_true rfl) (Nat.le_of_ble_eq_true rfl) ⟨rfl, rfl, rfl⟩ (by decide) rfl h

theorem bk_Pr_printSheet_17 {k : Nat} {pa pb : Nat} {ga : Nat → Nat} {I : pm_II} {J : pm_JJ} {Q : Option Value → pm_H → Prop} {x1 : Int32} {x2 : Int32} (h : vp_in x2 9 ∧ (((I 41 ((x2 : Int32).toNatClampNeg)) = 0 → Px (k + 1) 176 m_Pr_printSheet 4 [.ref 39, .int x1, .int (x2 + Int32.ofInt 1)] [] (hp I J (pm_RT pa pb ga)) Q) ∧ (¬ ((I 41 ((x2 : Int32).toNatClampNeg)) = 0) → vp_in x2 9 ∧ Px k 176 m_Jm_abs_I 0 [.int ((I 45 ((x2 : Int32).toNatClampNeg)) - (I 39 9))] [] (hp I J (pm_RT pa pb ga)) (fun r h' => h'.1 = 176 ∧ Px (k + 1) 176 m_Pr_printSheet 40 [.ref 39, .int x1, .int x2] (r.toList ++ []) h' Q)))) : Px (k + 1) 176 m_Pr_printSheet 17 [.ref 39, .int x1, .int x2] [] (hp I J (pm_RT pa pb ga)) Q := by
  refine x_l 18 rfl rfl rfl ?_
  refine z_gf 21 (.ref 41) rfl ⟨rfl, rfl, rfl⟩ rfl rfl ?_
  refine x_l 22 rfl rfl rfl ?_
  have h1 := h.1
  have h := h.2
  refine z_il 23 9 rfl ⟨rfl, rfl, rfl⟩ rfl h1 rfl ?_
  refine x_b 26 rfl rfl rfl (fun c => ?_) (fun c => ?_)
  · have h := h.1 c
    refine x_t 52 rfl rfl rfl ?_
    refine x_g rfl ?_
    exact h
  · have h := h.2 c
    refine x_l 27 rfl rfl rfl ?_
    refine z_gf 30 (.ref 45) rfl ⟨rfl, rfl, rfl⟩ rfl rfl ?_
    refine x_l 31 rfl rfl rfl ?_
    have h1 := h.1
    have h := h.2
    refine z_il 32 9 rfl ⟨rfl, rfl, rfl⟩ rfl h1 rfl ?_
    refine x_l 33 rfl rfl rfl ?_
    refine z_gf 36 (.int (I 39 9)) rfl ⟨rfl, rfl, rfl⟩ rfl rfl ?_
    refine x_s 37 rfl rfl rfl ?_
    exact z_cs (As := [.int ((I 45 ((x2 : Int32).toNatClampNeg)) - (I 39 9))]) (rest := []) rfl at_Jm_abs_I rfl rfl (Nat.le_of_ble_eq_true rfl) (Nat.le_of_ble_eq_true rfl) rfl h

theorem bk_Pr_printSheet_40 {k : Nat} {pa pb : Nat} {ga : Nat → Nat} {I : pm_II} {J : pm_JJ} {Q : Option Value → pm_H → Prop} {x1 : Int32} {x2 : Int32} {s0 : Int32} (h : ((s0 ≤ (I 39 10) → Px (k + 1) 176 m_Pr_printSheet 4 [.ref 39, .int x1, .int (x2 + Int32.ofInt 1)] [] (hp I J (pm_RT pa pb ga)) Q) ∧ (¬ (s0 ≤ (I 39 10)) → Px (k + 1) 176 m_Pr_printSheet 4 [.ref 39, .int 0, .int (x2 + Int32.ofInt 1)] [] (hp I J (pm_RT pa pb ga)) Q))) : Px (k + 1) 176 m_Pr_printSheet 40 [.ref 39, .int x1, .int x2] [.int s0] (hp I J (pm_RT pa pb ga)) Q := by
  refine x_l 41 rfl rfl rfl ?_
  refine z_gf 44 (.int (I 39 10)) rfl ⟨rfl, rfl, rfl⟩ rfl rfl ?_
  refine x_b 47 rfl rfl rfl (fun c => ?_) (fun c => ?_)
  · have h := h.1 c
    refine x_t 52 rfl rfl rfl ?_
    refine x_g rfl ?_
    exact h
  · have h := h.2 c
    refine z_k 48 0 rfl (by decide) rfl ?_
    refine x_t 49 rfl rfl rfl ?_
    refine x_t 52 rfl rfl rfl ?_
    refine x_g rfl ?_
    exact h

theorem bk_Pr_printSheet_86 {k : Nat} {pa pb : Nat} {ga : Nat → Nat} {I : pm_II} {J : pm_JJ} {Q : Option Value → pm_H → Prop} {x1 : Int32} {x2 : Int32} (h : ((x1 = 0 → Px (k + 1) 176 m_Pr_printSheet 108 [.ref 39, .int x1, .int x2] [] (hp I J (pm_RT pa pb ga)) Q) ∧ (¬ (x1 = 0) → Px k 176 m_Pr_noteGood 0 [.ref 39, .int (I 39 12)] [] (hp (pm_up I 39 13 ((I 39 13) + (1 : Int32))) J (pm_RT pa pb ga)) (fun r h' => h'.1 = 176 ∧ Px (k + 1) 176 m_Pr_printSheet 108 [.ref 39, .int x1, .int x2] (r.toList ++ []) h' Q)))) : Px (k + 1) 176 m_Pr_printSheet 86 [.ref 39, .int x1, .int x2] [] (hp I J (pm_RT pa pb ga)) Q := by
  refine x_l 87 rfl rfl rfl ?_
  refine x_b 90 rfl rfl rfl (fun c => ?_) (fun c => ?_)
  · have h := h.1 c
    exact h
  · have h := h.2 c
    refine x_l 91 rfl rfl rfl ?_
    refine x_s 92 rfl rfl rfl ?_
    refine z_gf 95 (.int (I 39 13)) rfl ⟨rfl, rfl, rfl⟩ rfl rfl ?_
    refine z_k 96 1 rfl (by decide) rfl ?_
    refine x_s 97 rfl rfl rfl ?_
    refine z_pi 100 rfl (Or.inl rfl) rfl (fun z => by cases z) ⟨rfl, rfl, rfl⟩ rfl ?_
    refine x_l 101 rfl rfl rfl ?_
    refine x_l 102 rfl rfl rfl ?_
    refine z_gf 105 (.int (I 39 12)) rfl ⟨rfl, rfl, rfl⟩ rfl rfl ?_
    exact z_cv (As := [.int (I 39 12)]) (rest := []) (b := 39) rfl at_Pr_noteGood rfl rfl (Nat.le_of_ble_eq_true rfl) (Nat.le_of_ble_eq_true rfl) ⟨rfl, rfl, rfl⟩ (by decide) rfl h

theorem bk_Pr_printSheet_108 {k : Nat} {pa pb : Nat} {ga : Nat → Nat} {I : pm_II} {J : pm_JJ} {Q : Option Value → pm_H → Prop} {x1 : Int32} {x2 : Int32} (h : Q none (hp I J (pm_RT pa pb ga))) : Px (k + 1) 176 m_Pr_printSheet 108 [.ref 39, .int x1, .int x2] [] (hp I J (pm_RT pa pb ga)) Q := by
  exact x_rv rfl rfl h

theorem bk_Pr_noteGood_0 {k : Nat} {pa pb : Nat} {ga : Nat → Nat} {I : pm_II} {J : pm_JJ} {Q : Option Value → pm_H → Prop} {x1 : Int32} (h : ((x1 < 0 → Q none (hp I J (pm_RT pa pb ga))) ∧ (¬ (x1 < 0) → ((4000 < x1 → Q none (hp I J (pm_RT pa pb ga))) ∧ (¬ (4000 < x1) → vp_in (x1 / 32) 126 ∧ vp_in (x1 / 32) 126 ∧ Q none (hp (pm_up I 47 (((x1 / 32) : Int32).toNatClampNeg) ((I 47 (((x1 / 32) : Int32).toNatClampNeg)) ||| ((1 : Int32) <<< ((x1 - x1 / 32 * 32) &&& 31)))) J (pm_RT pa pb ga))))))) : Px k 176 m_Pr_noteGood 0 [.ref 39, .int x1] [] (hp I J (pm_RT pa pb ga)) Q := by
  refine x_l 1 rfl rfl rfl ?_
  refine x_b 4 rfl rfl rfl (fun c => ?_) (fun c => ?_)
  · have h := h.1 c
    exact x_rv rfl rfl h
  · have h := h.2 c
    refine x_l 5 rfl rfl rfl ?_
    refine z_k 8 4000 rfl (by decide) rfl ?_
    refine x_b 11 rfl rfl rfl (fun c => ?_) (fun c => ?_)
    · have h := h.1 c
      exact x_rv rfl rfl h
    · have h := h.2 c
      refine x_l 12 rfl rfl rfl ?_
      refine z_gf 15 (.ref 47) rfl ⟨rfl, rfl, rfl⟩ rfl rfl ?_
      refine x_l 16 rfl rfl rfl ?_
      refine z_k 18 32 rfl (by decide) rfl ?_
      refine x_dv 19 rfl (by decide) rfl ?_
      refine x_s 20 rfl rfl rfl ?_
      have h1 := h.1
      have h := h.2
      refine z_il 21 126 rfl ⟨rfl, rfl, rfl⟩ rfl h1 rfl ?_
      refine z_k 22 1 rfl (by decide) rfl ?_
      refine x_l 23 rfl rfl rfl ?_
      refine z_k 25 32 rfl (by decide) rfl ?_
      refine x_rm 26 rfl (by decide) rfl ?_
      refine x_s 27 rfl rfl rfl ?_
      refine x_s 28 rfl rfl rfl ?_
      have h1 := h.1
      have h := h.2
      refine z_is 29 126 rfl ⟨rfl, rfl, rfl⟩ rfl h1 rfl ?_
      exact x_rv rfl rfl h

theorem bk_Pr_printTill_0 {k : Nat} {pa pb : Nat} {ga : Nat → Nat} {I : pm_II} {J : pm_JJ} {Q : Option Value → pm_H → Prop} {x1 : Int32} (h : ((x1 < 1 → Q (some (.int (-1))) (hp I J (pm_RT pa pb ga))) ∧ (¬ (x1 < 1) → ((x1 ≤ 200 → ((¬ (I 39 8) = 0 → Px (k + 1) 176 m_Pr_printTill 31 [.ref 39, .int x1, .int (I 39 13), .int 0] [] (hp I J (pm_RT pa pb ga)) Q) ∧ (¬ (¬ (I 39 8) = 0) → Q (some (.int (-3))) (hp I J (pm_RT pa pb ga))))) ∧ (¬ (x1 ≤ 200) → Q (some (.int (-1))) (hp I J (pm_RT pa pb ga))))))) : Px (k + 1) 176 m_Pr_printTill 0 [.ref 39, .int x1, .null, .null] [] (hp I J (pm_RT pa pb ga)) Q := by
  refine x_l 1 rfl rfl rfl ?_
  refine z_k 2 1 rfl (by decide) rfl ?_
  refine x_b 5 rfl rfl rfl (fun c => ?_) (fun c => ?_)
  · have h := h.1 c
    refine z_k 13 (-1) rfl (by decide) rfl ?_
    exact x_ri rfl (Or.inl rfl) h
  · have h := h.2 c
    refine x_l 6 rfl rfl rfl ?_
    refine z_k 9 200 rfl (by decide) rfl ?_
    refine x_b 12 rfl rfl rfl (fun c => ?_) (fun c => ?_)
    · have h := h.1 c
      refine x_l 15 rfl rfl rfl ?_
      refine z_gf 18 (.int (I 39 8)) rfl ⟨rfl, rfl, rfl⟩ rfl rfl ?_
      refine x_b 21 rfl rfl rfl (fun c => ?_) (fun c => ?_)
      · have h := h.1 c
        refine x_l 25 rfl rfl rfl ?_
        refine z_gf 28 (.int (I 39 13)) rfl ⟨rfl, rfl, rfl⟩ rfl rfl ?_
        refine x_t 29 rfl rfl rfl ?_
        refine z_k 30 0 rfl (by decide) rfl ?_
        refine x_t 31 rfl rfl rfl ?_
        exact h
      · have h := h.2 c
        refine z_k 23 (-3) rfl (by decide) rfl ?_
        exact x_ri rfl (Or.inl rfl) h
    · have h := h.2 c
      refine z_k 13 (-1) rfl (by decide) rfl ?_
      exact x_ri rfl (Or.inl rfl) h

theorem bk_Pr_printTill_31 {k : Nat} {pa pb : Nat} {ga : Nat → Nat} {I : pm_II} {J : pm_JJ} {Q : Option Value → pm_H → Prop} {x1 : Int32} {x2 : Int32} {x3 : Int32} (h : ((500 ≤ x3 → Px (k + 1) 176 m_Pr_printTill 68 [.ref 39, .int x1, .int x2, .int x3] [] (hp I J (pm_RT pa pb ga)) Q) ∧ (¬ (500 ≤ x3) → ((4000 ≤ (I 39 12) → Px (k + 1) 176 m_Pr_printTill 68 [.ref 39, .int x1, .int x2, .int x3] [] (hp I J (pm_RT pa pb ga)) Q) ∧ (¬ (4000 ≤ (I 39 12)) → ((x1 ≤ ((I 39 13) - x2) → Px (k + 1) 176 m_Pr_printTill 68 [.ref 39, .int x1, .int x2, .int x3] [] (hp I J (pm_RT pa pb ga)) Q) ∧ (¬ (x1 ≤ ((I 39 13) - x2)) → Px k 176 m_Pr_printSheet 0 [.ref 39, .null, .null] [] (hp I J (pm_RT pa pb ga)) (fun r h' => h'.1 = 176 ∧ Px (k + 1) 176 m_Pr_printTill 62 [.ref 39, .int x1, .int x2, .int x3] (r.toList ++ []) h' Q)))))))) : Px (k + 1) 176 m_Pr_printTill 31 [.ref 39, .int x1, .int x2, .int x3] [] (hp I J (pm_RT pa pb ga)) Q := by
  refine x_l 32 rfl rfl rfl ?_
  refine z_k 35 500 rfl (by decide) rfl ?_
  refine x_b 38 rfl rfl rfl (fun c => ?_) (fun c => ?_)
  · have h := h.1 c
    exact h
  · have h := h.2 c
    refine x_l 39 rfl rfl rfl ?_
    refine z_gf 42 (.int (I 39 12)) rfl ⟨rfl, rfl, rfl⟩ rfl rfl ?_
    refine z_k 45 4000 rfl (by decide) rfl ?_
    refine x_b 48 rfl rfl rfl (fun c => ?_) (fun c => ?_)
    · have h := h.1 c
      exact h
    · have h := h.2 c
      refine x_l 49 rfl rfl rfl ?_
      refine z_gf 52 (.int (I 39 13)) rfl ⟨rfl, rfl, rfl⟩ rfl rfl ?_
      refine x_l 53 rfl rfl rfl ?_
      refine x_s 54 rfl rfl rfl ?_
      refine x_l 55 rfl rfl rfl ?_
      refine x_b 58 rfl rfl rfl (fun c => ?_) (fun c => ?_)
      · have h := h.1 c
        exact h
      · have h := h.2 c
        refine x_l 59 rfl rfl rfl ?_
        exact z_cv (As := []) (rest := []) (b := 39) rfl at_Pr_printSheet rfl rfl (Nat.le_of_ble_eq_true rfl) (Nat.le_of_ble_eq_true rfl) ⟨rfl, rfl, rfl⟩ (by decide) rfl h

theorem bk_Pr_printTill_62 {k : Nat} {pa pb : Nat} {ga : Nat → Nat} {I : pm_II} {J : pm_JJ} {Q : Option Value → pm_H → Prop} {x1 : Int32} {x2 : Int32} {x3 : Int32} (h : Px (k + 1) 176 m_Pr_printTill 31 [.ref 39, .int x1, .int x2, .int (x3 + Int32.ofInt 1)] [] (hp I J (pm_RT pa pb ga)) Q) : Px (k + 1) 176 m_Pr_printTill 62 [.ref 39, .int x1, .int x2, .int x3] [] (hp I J (pm_RT pa pb ga)) Q := by
  refine x_t 65 rfl rfl rfl ?_
  refine x_g rfl ?_
  exact h

theorem bk_Pr_printTill_68 {k : Nat} {pa pb : Nat} {ga : Nat → Nat} {I : pm_II} {J : pm_JJ} {Q : Option Value → pm_H → Prop} {x1 : Int32} {x2 : Int32} {x3 : Int32} (h : Q (some (.int x3)) (hp I J (pm_RT pa pb ga))) : Px (k + 1) 176 m_Pr_printTill 68 [.ref 39, .int x1, .int x2, .int x3] [] (hp I J (pm_RT pa pb ga)) Q := by
  refine x_l 69 rfl rfl rfl ?_
  exact x_ri rfl (Or.inl rfl) h

theorem bk_Pr_tellZone_0 {k : Nat} {pa pb : Nat} {ga : Nat → Nat} {I : pm_II} {J : pm_JJ} {Q : Option Value → pm_H → Prop} {x1 : Int32} {x2 : Int32} (h : ((x1 < 0 → Q (some (.int (-1))) (hp I J (pm_RT pa pb ga))) ∧ (¬ (x1 < 0) → ((x1 < (I 39 8) → ((x2 = nI 0 → vp_in x1 9 ∧ Q (some (.int (I 41 ((x1 : Int32).toNatClampNeg)))) (hp I J (pm_RT pa pb ga))) ∧ (x2 = nI 1 → vp_in x1 9 ∧ Q (some (.int (I 43 ((x1 : Int32).toNatClampNeg)))) (hp I J (pm_RT pa pb ga))) ∧ (x2 = nI 2 → vp_in x1 9 ∧ Q (some (.int (I 44 ((x1 : Int32).toNatClampNeg)))) (hp I J (pm_RT pa pb ga))) ∧ (x2 = nI 3 → vp_in x1 9 ∧ Q (some (.int (I 45 ((x1 : Int32).toNatClampNeg)))) (hp I J (pm_RT pa pb ga))) ∧ (x2 = nI 4 → vp_in x1 9 ∧ Q (some (.int (I 46 ((x1 : Int32).toNatClampNeg)))) (hp I J (pm_RT pa pb ga))) ∧ (x2 = nI 5 → vp_in x1 9 ∧ Q (some (.int (I 40 ((x1 : Int32).toNatClampNeg)))) (hp I J (pm_RT pa pb ga))) ∧ ((x2 < 0 ∨ nI 5 < x2) → Q (some (.int (-1))) (hp I J (pm_RT pa pb ga))))) ∧ (¬ (x1 < (I 39 8)) → Q (some (.int (-1))) (hp I J (pm_RT pa pb ga))))))) : Px k 176 m_Pr_tellZone 0 [.ref 39, .int x1, .int x2] [] (hp I J (pm_RT pa pb ga)) Q := by
  refine x_l 1 rfl rfl rfl ?_
  refine x_b 4 rfl rfl rfl (fun c => ?_) (fun c => ?_)
  · have h := h.1 c
    refine z_k 13 (-1) rfl (by decide) rfl ?_
    exact x_ri rfl (Or.inl rfl) h
  · have h := h.2 c
    refine x_l 5 rfl rfl rfl ?_
    refine x_l 6 rfl rfl rfl ?_
    refine z_gf 9 (.int (I 39 8)) rfl ⟨rfl, rfl, rfl⟩ rfl rfl ?_
    refine x_b 12 rfl rfl rfl (fun c => ?_) (fun c => ?_)
    · have h := h.1 c
      refine x_l 15 rfl rfl rfl ?_
      refine z_sw 5 (dt := 94) rfl rfl (by decide) (fun i hi e => ?_) (fun c => ?_)
      · match i, hi with
        | 0, _ =>
          refine ⟨_, 52, rfl, rfl, ?_⟩
          have h := h.1 e
          refine x_l 53 rfl rfl rfl ?_
          refine z_gf 56 (.ref 41) rfl ⟨rfl, rfl, rfl⟩ rfl rfl ?_
          refine x_l 57 rfl rfl rfl ?_
          have h1 := h.1
          have h := h.2
          refine z_il 58 9 rfl ⟨rfl, rfl, rfl⟩ rfl h1 rfl ?_
          exact x_ri rfl (Or.inl rfl) h
        | 1, _ =>
          refine ⟨_, 59, rfl, rfl, ?_⟩
          have h := h.2.1 e
          refine x_l 60 rfl rfl rfl ?_
          refine z_gf 63 (.ref 43) rfl ⟨rfl, rfl, rfl⟩ rfl rfl ?_
          refine x_l 64 rfl rfl rfl ?_
          have h1 := h.1
          have h := h.2
          refine z_il 65 9 rfl ⟨rfl, rfl, rfl⟩ rfl h1 rfl ?_
          exact x_ri rfl (Or.inl rfl) h
        | 2, _ =>
          refine ⟨_, 66, rfl, rfl, ?_⟩
          have h := h.2.2.1 e
          refine x_l 67 rfl rfl rfl ?_
          refine z_gf 70 (.ref 44) rfl ⟨rfl, rfl, rfl⟩ rfl rfl ?_
          refine x_l 71 rfl rfl rfl ?_
          have h1 := h.1
          have h := h.2
          refine z_il 72 9 rfl ⟨rfl, rfl, rfl⟩ rfl h1 rfl ?_
          exact x_ri rfl (Or.inl rfl) h
        | 3, _ =>
          refine ⟨_, 73, rfl, rfl, ?_⟩
          have h := h.2.2.2.1 e
          refine x_l 74 rfl rfl rfl ?_
          refine z_gf 77 (.ref 45) rfl ⟨rfl, rfl, rfl⟩ rfl rfl ?_
          refine x_l 78 rfl rfl rfl ?_
          have h1 := h.1
          have h := h.2
          refine z_il 79 9 rfl ⟨rfl, rfl, rfl⟩ rfl h1 rfl ?_
          exact x_ri rfl (Or.inl rfl) h
        | 4, _ =>
          refine ⟨_, 80, rfl, rfl, ?_⟩
          have h := h.2.2.2.2.1 e
          refine x_l 81 rfl rfl rfl ?_
          refine z_gf 84 (.ref 46) rfl ⟨rfl, rfl, rfl⟩ rfl rfl ?_
          refine x_l 85 rfl rfl rfl ?_
          have h1 := h.1
          have h := h.2
          refine z_il 86 9 rfl ⟨rfl, rfl, rfl⟩ rfl h1 rfl ?_
          exact x_ri rfl (Or.inl rfl) h
        | 5, _ =>
          refine ⟨_, 87, rfl, rfl, ?_⟩
          have h := h.2.2.2.2.2.1 e
          refine x_l 88 rfl rfl rfl ?_
          refine z_gf 91 (.ref 40) rfl ⟨rfl, rfl, rfl⟩ rfl rfl ?_
          refine x_l 92 rfl rfl rfl ?_
          have h1 := h.1
          have h := h.2
          refine z_il 93 9 rfl ⟨rfl, rfl, rfl⟩ rfl h1 rfl ?_
          exact x_ri rfl (Or.inl rfl) h
        | n + 6, hi => exact absurd hi (by omega)
      · have h := h.2.2.2.2.2.2 c
        refine z_k 95 (-1) rfl (by decide) rfl ?_
        exact x_ri rfl (Or.inl rfl) h
    · have h := h.2 c
      refine z_k 13 (-1) rfl (by decide) rfl ?_
      exact x_ri rfl (Or.inl rfl) h

theorem bk_Pr_numberOf_0 {k : Nat} {pa pb : Nat} {ga : Nat → Nat} {I : pm_II} {J : pm_JJ} {Q : Option Value → pm_H → Prop} {x1 : Int32} (h : ((x1 < 1 → Q (some (.int (-1))) (hp I J (pm_RT pa pb ga))) ∧ (¬ (x1 < 1) → (((I 39 12) < x1 → Q (some (.int (-1))) (hp I J (pm_RT pa pb ga))) ∧ (¬ ((I 39 12) < x1) → ((x1 ≤ 4000 → vp_in (x1 / 32) 126 ∧ ((¬ ((((I 47 (((x1 / 32) : Int32).toNatClampNeg))).toUInt32 >>> (((x1 - x1 / 32 * 32)).toUInt32 &&& Int32.toUInt32 31)).toInt32 &&& (1 : Int32)) = 0 → vp_in (x1 / 32) 126 ∧ Px k 176 m_Ji_bitCount 0 [.int ((I 47 (((x1 / 32) : Int32).toNatClampNeg)) &&& ((((-1) : Int32)).toUInt32 >>> ((((31 : Int32) - (x1 - x1 / 32 * 32))).toUInt32 &&& Int32.toUInt32 31)).toInt32)] [] (hp I J (pm_RT pa pb ga)) (fun r h' => h'.1 = 176 ∧ Px (k + 1) 176 m_Pr_numberOf 66 [.ref 39, .int x1, .int (x1 / 32), .int ((((-1) : Int32)).toUInt32 >>> ((((31 : Int32) - (x1 - x1 / 32 * 32))).toUInt32 &&& Int32.toUInt32 31)).toInt32, .null, .null] (r.toList ++ []) h' Q)) ∧ (¬ (¬ ((((I 47 (((x1 / 32) : Int32).toNatClampNeg))).toUInt32 >>> (((x1 - x1 / 32 * 32)).toUInt32 &&& Int32.toUInt32 31)).toInt32 &&& (1 : Int32)) = 0) → Q (some (.int 0)) (hp I J (pm_RT pa pb ga))))) ∧ (¬ (x1 ≤ 4000) → Q (some (.int (-1))) (hp I J (pm_RT pa pb ga))))))))) : Px (k + 1) 176 m_Pr_numberOf 0 [.ref 39, .int x1, .null, .null, .null, .null] [] (hp I J (pm_RT pa pb ga)) Q := by
  refine x_l 1 rfl rfl rfl ?_
  refine z_k 2 1 rfl (by decide) rfl ?_
  refine x_b 5 rfl rfl rfl (fun c => ?_) (fun c => ?_)
  · have h := h.1 c
    refine z_k 21 (-1) rfl (by decide) rfl ?_
    exact x_ri rfl (Or.inl rfl) h
  · have h := h.2 c
    refine x_l 6 rfl rfl rfl ?_
    refine x_l 7 rfl rfl rfl ?_
    refine z_gf 10 (.int (I 39 12)) rfl ⟨rfl, rfl, rfl⟩ rfl rfl ?_
    refine x_b 13 rfl rfl rfl (fun c => ?_) (fun c => ?_)
    · have h := h.1 c
      refine z_k 21 (-1) rfl (by decide) rfl ?_
      exact x_ri rfl (Or.inl rfl) h
    · have h := h.2 c
      refine x_l 14 rfl rfl rfl ?_
      refine z_k 17 4000 rfl (by decide) rfl ?_
      refine x_b 20 rfl rfl rfl (fun c => ?_) (fun c => ?_)
      · have h := h.1 c
        refine x_l 23 rfl rfl rfl ?_
        refine z_k 25 32 rfl (by decide) rfl ?_
        refine x_dv 26 rfl (by decide) rfl ?_
        refine x_t 27 rfl rfl rfl ?_
        refine z_k 28 (-1) rfl (by decide) rfl ?_
        refine z_k 30 31 rfl (by decide) rfl ?_
        refine x_l 31 rfl rfl rfl ?_
        refine z_k 33 32 rfl (by decide) rfl ?_
        refine x_rm 34 rfl (by decide) rfl ?_
        refine x_s 35 rfl rfl rfl ?_
        refine x_s 36 rfl rfl rfl ?_
        refine x_t 37 rfl rfl rfl ?_
        refine x_l 38 rfl rfl rfl ?_
        refine z_gf 41 (.ref 47) rfl ⟨rfl, rfl, rfl⟩ rfl rfl ?_
        refine x_l 42 rfl rfl rfl ?_
        have h1 := h.1
        have h := h.2
        refine z_il 43 126 rfl ⟨rfl, rfl, rfl⟩ rfl h1 rfl ?_
        refine x_l 44 rfl rfl rfl ?_
        refine z_k 46 32 rfl (by decide) rfl ?_
        refine x_rm 47 rfl (by decide) rfl ?_
        refine x_s 48 rfl rfl rfl ?_
        refine z_k 49 1 rfl (by decide) rfl ?_
        refine x_s 50 rfl rfl rfl ?_
        refine x_b 53 rfl rfl rfl (fun c => ?_) (fun c => ?_)
        · have h := h.1 c
          refine x_l 56 rfl rfl rfl ?_
          refine z_gf 59 (.ref 47) rfl ⟨rfl, rfl, rfl⟩ rfl rfl ?_
          refine x_l 60 rfl rfl rfl ?_
          have h1 := h.1
          have h := h.2
          refine z_il 61 126 rfl ⟨rfl, rfl, rfl⟩ rfl h1 rfl ?_
          refine x_l 62 rfl rfl rfl ?_
          refine x_s 63 rfl rfl rfl ?_
          exact z_cs (As := [.int ((I 47 (((x1 / 32) : Int32).toNatClampNeg)) &&& ((((-1) : Int32)).toUInt32 >>> ((((31 : Int32) - (x1 - x1 / 32 * 32))).toUInt32 &&& Int32.toUInt32 31)).toInt32)]) (rest := []) rfl at_Ji_bitCount rfl rfl (Nat.le_of_ble_eq_true rfl) (Nat.le_of_ble_eq_true rfl) rfl h
        · have h := h.2 c
          refine z_k 54 0 rfl (by decide) rfl ?_
          exact x_ri rfl (Or.inl rfl) h
      · have h := h.2 c
        refine z_k 21 (-1) rfl (by decide) rfl ?_
        exact x_ri rfl (Or.inl rfl) h

theorem bk_Pr_numberOf_66 {k : Nat} {pa pb : Nat} {ga : Nat → Nat} {I : pm_II} {J : pm_JJ} {Q : Option Value → pm_H → Prop} {x1 : Int32} {x2 : Int32} {x3 : Int32} {s0 : Int32} (h : Px (k + 1) 176 m_Pr_numberOf 71 [.ref 39, .int x1, .int x2, .int x3, .int s0, .int 0] [] (hp I J (pm_RT pa pb ga)) Q) : Px (k + 1) 176 m_Pr_numberOf 66 [.ref 39, .int x1, .int x2, .int x3, .null, .null] [.int s0] (hp I J (pm_RT pa pb ga)) Q := by
  refine x_t 68 rfl rfl rfl ?_
  refine z_k 69 0 rfl (by decide) rfl ?_
  refine x_t 71 rfl rfl rfl ?_
  exact h

theorem bk_Pr_numberOf_71 {k : Nat} {pa pb : Nat} {ga : Nat → Nat} {I : pm_II} {J : pm_JJ} {Q : Option Value → pm_H → Prop} {x1 : Int32} {x2 : Int32} {x3 : Int32} {x4 : Int32} {x5 : Int32} (h : ((x2 ≤ x5 → Q (some (.int x4)) (hp I J (pm_RT pa pb ga))) ∧ (¬ (x2 ≤ x5) → vp_in x5 126 ∧ Px k 176 m_Ji_bitCount 0 [.int (I 47 ((x5 : Int32).toNatClampNeg))] [] (hp I J (pm_RT pa pb ga)) (fun r h' => h'.1 = 176 ∧ Px (k + 1) 176 m_Pr_numberOf 89 [.ref 39, .int x1, .int x2, .int x3, .int x4, .int x5] (r.toList ++ [.int x4]) h' Q)))) : Px (k + 1) 176 m_Pr_numberOf 71 [.ref 39, .int x1, .int x2, .int x3, .int x4, .int x5] [] (hp I J (pm_RT pa pb ga)) Q := by
  refine x_l 73 rfl rfl rfl ?_
  refine x_l 74 rfl rfl rfl ?_
  refine x_b 77 rfl rfl rfl (fun c => ?_) (fun c => ?_)
  · have h := h.1 c
    refine x_l 100 rfl rfl rfl ?_
    exact x_ri rfl (Or.inl rfl) h
  · have h := h.2 c
    refine x_l 79 rfl rfl rfl ?_
    refine x_l 80 rfl rfl rfl ?_
    refine z_gf 83 (.ref 47) rfl ⟨rfl, rfl, rfl⟩ rfl rfl ?_
    refine x_l 85 rfl rfl rfl ?_
    have h1 := h.1
    have h := h.2
    refine z_il 86 126 rfl ⟨rfl, rfl, rfl⟩ rfl h1 rfl ?_
    exact z_cs (As := [.int (I 47 ((x5 : Int32).toNatClampNeg))]) (rest := [.int x4]) rfl at_Ji_bitCount rfl rfl (Nat.le_of_ble_eq_true rfl) (Nat.le_of_ble_eq_true rfl) rfl h

theorem bk_Pr_numberOf_89 {k : Nat} {pa pb : Nat} {ga : Nat → Nat} {I : pm_II} {J : pm_JJ} {Q : Option Value → pm_H → Prop} {x1 : Int32} {x2 : Int32} {x3 : Int32} {x4 : Int32} {x5 : Int32} {s0 : Int32} {s1 : Int32} (h : Px (k + 1) 176 m_Pr_numberOf 71 [.ref 39, .int x1, .int x2, .int x3, .int (s0 + s1), .int (x5 + Int32.ofInt 1)] [] (hp I J (pm_RT pa pb ga)) Q) : Px (k + 1) 176 m_Pr_numberOf 89 [.ref 39, .int x1, .int x2, .int x3, .int x4, .int x5] [.int s1, .int s0] (hp I J (pm_RT pa pb ga)) Q := by
  refine x_s 90 rfl rfl rfl ?_
  refine x_t 92 rfl rfl rfl ?_
  refine x_t 95 rfl rfl rfl ?_
  refine x_g rfl ?_
  exact h

theorem bk_Pr_sheetsPrinted_0 {k : Nat} {pa pb : Nat} {ga : Nat → Nat} {I : pm_II} {J : pm_JJ} {Q : Option Value → pm_H → Prop} (h : Q (some (.int (I 39 12))) (hp I J (pm_RT pa pb ga))) : Px k 176 m_Pr_sheetsPrinted 0 [.ref 39] [] (hp I J (pm_RT pa pb ga)) Q := by
  refine x_l 1 rfl rfl rfl ?_
  refine z_gf 4 (.int (I 39 12)) rfl ⟨rfl, rfl, rfl⟩ rfl rfl ?_
  exact x_ri rfl (Or.inl rfl) h

theorem bk_Pr_sheetsGood_0 {k : Nat} {pa pb : Nat} {ga : Nat → Nat} {I : pm_II} {J : pm_JJ} {Q : Option Value → pm_H → Prop} (h : Q (some (.int (I 39 13))) (hp I J (pm_RT pa pb ga))) : Px k 176 m_Pr_sheetsGood 0 [.ref 39] [] (hp I J (pm_RT pa pb ga)) Q := by
  refine x_l 1 rfl rfl rfl ?_
  refine z_gf 4 (.int (I 39 13)) rfl ⟨rfl, rfl, rfl⟩ rfl rfl ?_
  exact x_ri rfl (Or.inl rfl) h
