theorem bk_Ty_stockUp_0 {k : Nat} {pa pb : Nat} {ga : Nat → Nat} {I : pm_II} {J : pm_JJ} {Q : Option Value → pm_H → Prop} {x1 : Int32} {x2 : Int32} {x3 : Int32} (h : ((x1 < 1 → Q (some (.int (-1))) (hp I J (pm_RT pa pb ga))) ∧ (¬ (x1 < 1) → ((26 < x1 → Q (some (.int (-1))) (hp I J (pm_RT pa pb ga))) ∧ (¬ (26 < x1) → ((x2 < 0 → Q (some (.int (-1))) (hp I J (pm_RT pa pb ga))) ∧ (¬ (x2 < 0) → ((99 < x2 → Q (some (.int (-1))) (hp I J (pm_RT pa pb ga))) ∧ (¬ (99 < x2) → ((x3 < 1 → Q (some (.int (-1))) (hp I J (pm_RT pa pb ga))) ∧ (¬ (x3 < 1) → ((x3 ≤ 20 → vp_in (x1 - (1 : Int32)) 26 ∧ vp_in (x1 - (1 : Int32)) 26 ∧ Q (some (.int 1)) (hp (pm_up (pm_up I 49 (((x1 - (1 : Int32)) : Int32).toNatClampNeg) x2) 50 (((x1 - (1 : Int32)) : Int32).toNatClampNeg) x3) J (pm_RT pa pb ga))) ∧ (¬ (x3 ≤ 20) → Q (some (.int (-1))) (hp I J (pm_RT pa pb ga))))))))))))))) : Px k 176 m_Ty_stockUp 0 [.ref 48, .int x1, .int x2, .int x3] [] (hp I J (pm_RT pa pb ga)) Q := by
  refine x_l 1 rfl rfl rfl ?_
  refine z_k 2 1 rfl (by decide) rfl ?_
  refine x_b 5 rfl rfl rfl (fun c => ?_) (fun c => ?_)
  · have h := h.1 c
    refine z_k 33 (-1) rfl (by decide) rfl ?_
    exact x_ri rfl (Or.inl rfl) h
  · have h := h.2 c
    refine x_l 6 rfl rfl rfl ?_
    refine z_k 8 26 rfl (by decide) rfl ?_
    refine x_b 11 rfl rfl rfl (fun c => ?_) (fun c => ?_)
    · have h := h.1 c
      refine z_k 33 (-1) rfl (by decide) rfl ?_
      exact x_ri rfl (Or.inl rfl) h
    · have h := h.2 c
      refine x_l 12 rfl rfl rfl ?_
      refine x_b 15 rfl rfl rfl (fun c => ?_) (fun c => ?_)
      · have h := h.1 c
        refine z_k 33 (-1) rfl (by decide) rfl ?_
        exact x_ri rfl (Or.inl rfl) h
      · have h := h.2 c
        refine x_l 16 rfl rfl rfl ?_
        refine z_k 18 99 rfl (by decide) rfl ?_
        refine x_b 21 rfl rfl rfl (fun c => ?_) (fun c => ?_)
        · have h := h.1 c
          refine z_k 33 (-1) rfl (by decide) rfl ?_
          exact x_ri rfl (Or.inl rfl) h
        · have h := h.2 c
          refine x_l 22 rfl rfl rfl ?_
          refine z_k 23 1 rfl (by decide) rfl ?_
          refine x_b 26 rfl rfl rfl (fun c => ?_) (fun c => ?_)
          · have h := h.1 c
            refine z_k 33 (-1) rfl (by decide) rfl ?_
            exact x_ri rfl (Or.inl rfl) h
          · have h := h.2 c
            refine x_l 27 rfl rfl rfl ?_
            refine z_k 29 20 rfl (by decide) rfl ?_
            refine x_b 32 rfl rfl rfl (fun c => ?_) (fun c => ?_)
            · have h := h.1 c
              refine x_l 35 rfl rfl rfl ?_
              refine z_gf 38 (.ref 49) rfl ⟨rfl, rfl, rfl⟩ rfl rfl ?_
              refine x_l 39 rfl rfl rfl ?_
              refine z_k 40 1 rfl (by decide) rfl ?_
              refine x_s 41 rfl rfl rfl ?_
              refine x_l 42 rfl rfl rfl ?_
              have h1 := h.1
              have h := h.2
              refine z_is 43 26 rfl ⟨rfl, rfl, rfl⟩ rfl h1 rfl ?_
              refine x_l 44 rfl rfl rfl ?_
              refine z_gf 47 (.ref 50) rfl ⟨rfl, rfl, rfl⟩ rfl rfl ?_
              refine x_l 48 rfl rfl rfl ?_
              refine z_k 49 1 rfl (by decide) rfl ?_
              refine x_s 50 rfl rfl rfl ?_
              refine x_l 51 rfl rfl rfl ?_
              have h1 := h.1
              have h := h.2
              refine z_is 52 26 rfl ⟨rfl, rfl, rfl⟩ rfl h1 rfl ?_
              refine z_k 53 1 rfl (by decide) rfl ?_
              exact x_ri rfl (Or.inl rfl) h
            · have h := h.2 c
              refine z_k 33 (-1) rfl (by decide) rfl ?_
              exact x_ri rfl (Or.inl rfl) h

theorem bk_Ty_takeText_0 {k : Nat} {pa pb : Nat} {ga : Nat → Nat} {I : pm_II} {J : pm_JJ} {Q : Option Value → pm_H → Prop} {x2 : Int32} (h : Px k 176 m_Ty_readWords 0 [.ref 48, .ref 17] [] (hp I J (pm_RT pa pb ga)) (fun r h' => h'.1 = 176 ∧ Px (k + 1) 176 m_Ty_takeText 5 [.ref 48, .ref 17, .int x2, .null, .null] (r.toList ++ []) h' Q)) : Px (k + 1) 176 m_Ty_takeText 0 [.ref 48, .ref 17, .int x2, .null, .null] [] (hp I J (pm_RT pa pb ga)) Q := by
  refine x_l 1 rfl rfl rfl ?_
  refine x_l 2 rfl rfl rfl ?_
  exact z_cv (As := [.ref 17]) (rest := []) (b := 48) rfl at_Ty_readWords rfl rfl (Nat.le_of_ble_eq_true rfl) (Nat.le_of_ble_eq_true rfl) ⟨rfl, rfl, rfl⟩ (by decide) rfl h

theorem bk_Ty_takeText_5 {k : Nat} {pa pb : Nat} {ga : Nat → Nat} {I : pm_II} {J : pm_JJ} {Q : Option Value → pm_H → Prop} {x2 : Int32} (h : Px k 176 m_Ta_isRight 0 [.ref 17] [] (hp I J (pm_RT pa pb ga)) (fun r h' => h'.1 = 176 ∧ Px (k + 1) 176 m_Ty_takeText 9 [.ref 48, .ref 17, .int x2, .null, .null] (r.toList ++ []) h' Q)) : Px (k + 1) 176 m_Ty_takeText 5 [.ref 48, .ref 17, .int x2, .null, .null] [] (hp I J (pm_RT pa pb ga)) Q := by
  refine x_l 6 rfl rfl rfl ?_
  exact z_cv (As := []) (rest := []) (b := 17) rfl at_Ta_isRight rfl rfl (Nat.le_of_ble_eq_true rfl) (Nat.le_of_ble_eq_true rfl) ⟨rfl, rfl, rfl⟩ (by decide) rfl h

theorem bk_Ty_takeText_9 {k : Nat} {pa pb : Nat} {ga : Nat → Nat} {I : pm_II} {J : pm_JJ} {Q : Option Value → pm_H → Prop} {x2 : Int32} {s0 : Int32} (h : ((¬ s0 = 0 → Px k 176 m_Ty_measureWords 0 [.ref 48, .ref 17, .null, .null, .null] [] (hp I J (pm_RT pa pb ga)) (fun r h' => h'.1 = 176 ∧ Px (k + 1) 176 m_Ty_takeText 19 [.ref 48, .ref 17, .int x2, .null, .null] (r.toList ++ []) h' Q)) ∧ (¬ (¬ s0 = 0) → Q (some (.int (-1))) (hp I J (pm_RT pa pb ga))))) : Px (k + 1) 176 m_Ty_takeText 9 [.ref 48, .ref 17, .int x2, .null, .null] [.int s0] (hp I J (pm_RT pa pb ga)) Q := by
  refine x_b 12 rfl rfl rfl (fun c => ?_) (fun c => ?_)
  · have h := h.1 c
    refine x_l 15 rfl rfl rfl ?_
    refine x_l 16 rfl rfl rfl ?_
    exact z_cv (As := [.ref 17]) (rest := []) (b := 48) rfl at_Ty_measureWords rfl rfl (Nat.le_of_ble_eq_true rfl) (Nat.le_of_ble_eq_true rfl) ⟨rfl, rfl, rfl⟩ (by decide) rfl h
  · have h := h.2 c
    refine z_k 13 (-1) rfl (by decide) rfl ?_
    exact x_ri rfl (Or.inl rfl) h

theorem bk_Ty_takeText_19 {k : Nat} {pa pb : Nat} {ga : Nat → Nat} {I : pm_II} {J : pm_JJ} {Q : Option Value → pm_H → Prop} {x2 : Int32} (h : Px k 176 m_Ty_enoughSorts 0 [.ref 48, .null] [] (hp I J (pm_RT pa pb ga)) (fun r h' => h'.1 = 176 ∧ Px (k + 1) 176 m_Ty_takeText 23 [.ref 48, .ref 17, .int x2, .null, .null] (r.toList ++ []) h' Q)) : Px (k + 1) 176 m_Ty_takeText 19 [.ref 48, .ref 17, .int x2, .null, .null] [] (hp I J (pm_RT pa pb ga)) Q := by
  refine x_l 20 rfl rfl rfl ?_
  exact z_cv (As := []) (rest := []) (b := 48) rfl at_Ty_enoughSorts rfl rfl (Nat.le_of_ble_eq_true rfl) (Nat.le_of_ble_eq_true rfl) ⟨rfl, rfl, rfl⟩ (by decide) rfl h

theorem bk_Ty_takeText_23 {k : Nat} {pa pb : Nat} {ga : Nat → Nat} {I : pm_II} {J : pm_JJ} {Q : Option Value → pm_H → Prop} {x2 : Int32} {s0 : Int32} (h : ((s0 = 0 → Q (some (.int 0)) (hp I J (pm_RT pa pb ga))) ∧ (¬ (s0 = 0) → Px k 176 m_Ty_wordsFit 0 [.ref 48, .int x2, .null] [] (hp I J (pm_RT pa pb ga)) (fun r h' => h'.1 = 176 ∧ Px (k + 1) 176 m_Ty_takeText 31 [.ref 48, .ref 17, .int x2, .null, .null] (r.toList ++ []) h' Q)))) : Px (k + 1) 176 m_Ty_takeText 23 [.ref 48, .ref 17, .int x2, .null, .null] [.int s0] (hp I J (pm_RT pa pb ga)) Q := by
  refine x_b 26 rfl rfl rfl (fun c => ?_) (fun c => ?_)
  · have h := h.1 c
    refine z_k 35 0 rfl (by decide) rfl ?_
    exact x_ri rfl (Or.inl rfl) h
  · have h := h.2 c
    refine x_l 27 rfl rfl rfl ?_
    refine x_l 28 rfl rfl rfl ?_
    exact z_cv (As := [.int x2]) (rest := []) (b := 48) rfl at_Ty_wordsFit rfl rfl (Nat.le_of_ble_eq_true rfl) (Nat.le_of_ble_eq_true rfl) ⟨rfl, rfl, rfl⟩ (by decide) rfl h

theorem bk_Ty_takeText_31 {k : Nat} {pa pb : Nat} {ga : Nat → Nat} {I : pm_II} {J : pm_JJ} {Q : Option Value → pm_H → Prop} {x2 : Int32} {s0 : Int32} (h : ((¬ s0 = 0 → Px k 176 m_Ty_breakLines 0 [.ref 48, .int x2, .null, .null, .null, .null] [] (hp I J (pm_RT pa pb ga)) (fun r h' => h'.1 = 176 ∧ Px (k + 1) 176 m_Ty_takeText 41 [.ref 48, .ref 17, .int x2, .null, .null] (r.toList ++ []) h' Q)) ∧ (¬ (¬ s0 = 0) → Q (some (.int 0)) (hp I J (pm_RT pa pb ga))))) : Px (k + 1) 176 m_Ty_takeText 31 [.ref 48, .ref 17, .int x2, .null, .null] [.int s0] (hp I J (pm_RT pa pb ga)) Q := by
  refine x_b 34 rfl rfl rfl (fun c => ?_) (fun c => ?_)
  · have h := h.1 c
    refine x_l 37 rfl rfl rfl ?_
    refine x_l 38 rfl rfl rfl ?_
    exact z_cv (As := [.int x2]) (rest := []) (b := 48) rfl at_Ty_breakLines rfl rfl (Nat.le_of_ble_eq_true rfl) (Nat.le_of_ble_eq_true rfl) ⟨rfl, rfl, rfl⟩ (by decide) rfl h
  · have h := h.2 c
    refine z_k 35 0 rfl (by decide) rfl ?_
    exact x_ri rfl (Or.inl rfl) h

theorem bk_Ty_takeText_41 {k : Nat} {pa pb : Nat} {ga : Nat → Nat} {I : pm_II} {J : pm_JJ} {Q : Option Value → pm_H → Prop} {x2 : Int32} {s0 : Int32} (h : ((((I 48 9) + s0) ≤ 16 → Px (k + 1) 176 m_Ty_takeText 58 [.ref 48, .ref 17, .int x2, .int s0, .int 0] [] (hp I J (pm_RT pa pb ga)) Q) ∧ (¬ (((I 48 9) + s0) ≤ 16) → Q (some (.int 0)) (hp I J (pm_RT pa pb ga))))) : Px (k + 1) 176 m_Ty_takeText 41 [.ref 48, .ref 17, .int x2, .null, .null] [.int s0] (hp I J (pm_RT pa pb ga)) Q := by
  refine x_t 42 rfl rfl rfl ?_
  refine x_l 43 rfl rfl rfl ?_
  refine z_gf 46 (.int (I 48 9)) rfl ⟨rfl, rfl, rfl⟩ rfl rfl ?_
  refine x_l 47 rfl rfl rfl ?_
  refine x_s 48 rfl rfl rfl ?_
  refine z_k 50 16 rfl (by decide) rfl ?_
  refine x_b 53 rfl rfl rfl (fun c => ?_) (fun c => ?_)
  · have h := h.1 c
    refine z_k 56 0 rfl (by decide) rfl ?_
    refine x_t 58 rfl rfl rfl ?_
    exact h
  · have h := h.2 c
    refine z_k 54 0 rfl (by decide) rfl ?_
    exact x_ri rfl (Or.inl rfl) h

theorem bk_Ty_takeText_58 {k : Nat} {pa pb : Nat} {ga : Nat → Nat} {I : pm_II} {J : pm_JJ} {Q : Option Value → pm_H → Prop} {x2 : Int32} {x3 : Int32} {x4 : Int32} (h : ((x3 ≤ x4 → Px (k + 1) 176 m_Ty_takeText 94 [.ref 48, .ref 17, .int x2, .int x3, .int 0] [] (hp I J (pm_RT pa pb ga)) Q) ∧ (¬ (x3 ≤ x4) → ((¬ x4 = (x3 - (1 : Int32)) → Px (k + 1) 176 m_Ty_takeText 81 [.ref 48, .ref 17, .int x2, .int x3, .int x4] [.int 0, .int x4, .ref 17, .ref 48] (hp I J (pm_RT pa pb ga)) Q) ∧ (¬ (¬ x4 = (x3 - (1 : Int32))) → Px (k + 1) 176 m_Ty_takeText 81 [.ref 48, .ref 17, .int x2, .int x3, .int x4] [.int 1, .int x4, .ref 17, .ref 48] (hp I J (pm_RT pa pb ga)) Q))))) : Px (k + 1) 176 m_Ty_takeText 58 [.ref 48, .ref 17, .int x2, .int x3, .int x4] [] (hp I J (pm_RT pa pb ga)) Q := by
  refine x_l 60 rfl rfl rfl ?_
  refine x_l 61 rfl rfl rfl ?_
  refine x_b 64 rfl rfl rfl (fun c => ?_) (fun c => ?_)
  · have h := h.1 c
    refine z_k 92 0 rfl (by decide) rfl ?_
    refine x_t 94 rfl rfl rfl ?_
    exact h
  · have h := h.2 c
    refine x_l 65 rfl rfl rfl ?_
    refine x_l 66 rfl rfl rfl ?_
    refine x_l 68 rfl rfl rfl ?_
    refine x_l 70 rfl rfl rfl ?_
    refine x_l 71 rfl rfl rfl ?_
    refine z_k 72 1 rfl (by decide) rfl ?_
    refine x_s 73 rfl rfl rfl ?_
    refine x_b 76 rfl rfl rfl (fun c => ?_) (fun c => ?_)
    · have h := h.1 c
      refine z_k 81 0 rfl (by decide) rfl ?_
      exact h
    · have h := h.2 c
      refine z_k 77 1 rfl (by decide) rfl ?_
      refine x_g rfl ?_
      exact h

theorem bk_Ty_takeText_81 {k : Nat} {pa pb : Nat} {ga : Nat → Nat} {I : pm_II} {J : pm_JJ} {Q : Option Value → pm_H → Prop} {x2 : Int32} {x3 : Int32} {x4 : Int32} {s2 : Int32} {s3 : Int32} (h : Px k 176 m_Ty_layLine 0 [.ref 48, .ref 17, .int s2, .int s3, .int x2, .null, .null, .null, .null, .null, .null, .null, .null] [] (hp I J (pm_RT pa pb ga)) (fun r h' => h'.1 = 176 ∧ Px (k + 1) 176 m_Ty_takeText 85 [.ref 48, .ref 17, .int x2, .int x3, .int x4] (r.toList ++ []) h' Q)) : Px (k + 1) 176 m_Ty_takeText 81 [.ref 48, .ref 17, .int x2, .int x3, .int x4] [.int s3, .int s2, .ref 17, .ref 48] (hp I J (pm_RT pa pb ga)) Q := by
  refine x_l 82 rfl rfl rfl ?_
  exact z_cv (As := [.ref 17, .int s2, .int s3, .int x2]) (rest := []) (b := 48) rfl at_Ty_layLine rfl rfl (Nat.le_of_ble_eq_true rfl) (Nat.le_of_ble_eq_true rfl) ⟨rfl, rfl, rfl⟩ (by decide) rfl h

theorem bk_Ty_takeText_85 {k : Nat} {pa pb : Nat} {ga : Nat → Nat} {I : pm_II} {J : pm_JJ} {Q : Option Value → pm_H → Prop} {x2 : Int32} {x3 : Int32} {x4 : Int32} (h : Px (k + 1) 176 m_Ty_takeText 58 [.ref 48, .ref 17, .int x2, .int x3, .int (x4 + Int32.ofInt 1)] [] (hp I J (pm_RT pa pb ga)) Q) : Px (k + 1) 176 m_Ty_takeText 85 [.ref 48, .ref 17, .int x2, .int x3, .int x4] [] (hp I J (pm_RT pa pb ga)) Q := by
  refine x_t 88 rfl rfl rfl ?_
  refine x_g rfl ?_
  exact h

theorem bk_Ty_takeText_94 {k : Nat} {pa pb : Nat} {ga : Nat → Nat} {I : pm_II} {J : pm_JJ} {Q : Option Value → pm_H → Prop} {x2 : Int32} {x3 : Int32} {x4 : Int32} (h : ((26 ≤ x4 → Q (some (.int x3)) (hp I J (pm_RT pa pb ga))) ∧ (¬ (26 ≤ x4) → vp_in x4 26 ∧ vp_in x4 26 ∧ vp_in x4 26 ∧ Px (k + 1) 176 m_Ty_takeText 94 [.ref 48, .ref 17, .int x2, .int x3, .int (x4 + Int32.ofInt 1)] [] (hp (pm_up I 49 ((x4 : Int32).toNatClampNeg) ((I 49 ((x4 : Int32).toNatClampNeg)) - (I 51 ((x4 : Int32).toNatClampNeg)))) J (pm_RT pa pb ga)) Q))) : Px (k + 1) 176 m_Ty_takeText 94 [.ref 48, .ref 17, .int x2, .int x3, .int x4] [] (hp I J (pm_RT pa pb ga)) Q := by
  refine x_l 96 rfl rfl rfl ?_
  refine z_k 98 26 rfl (by decide) rfl ?_
  refine x_b 101 rfl rfl rfl (fun c => ?_) (fun c => ?_)
  · have h := h.1 c
    refine x_l 125 rfl rfl rfl ?_
    exact x_ri rfl (Or.inl rfl) h
  · have h := h.2 c
    refine x_l 102 rfl rfl rfl ?_
    refine z_gf 105 (.ref 49) rfl ⟨rfl, rfl, rfl⟩ rfl rfl ?_
    refine x_l 107 rfl rfl rfl ?_
    refine x_s 108 rfl rfl rfl ?_
    have h1 := h.1
    have h := h.2
    refine z_il 109 26 rfl ⟨rfl, rfl, rfl⟩ rfl h1 rfl ?_
    refine x_l 110 rfl rfl rfl ?_
    refine z_gf 113 (.ref 51) rfl ⟨rfl, rfl, rfl⟩ rfl rfl ?_
    refine x_l 115 rfl rfl rfl ?_
    have h1 := h.1
    have h := h.2
    refine z_il 116 26 rfl ⟨rfl, rfl, rfl⟩ rfl h1 rfl ?_
    refine x_s 117 rfl rfl rfl ?_
    have h1 := h.1
    have h := h.2
    refine z_is 118 26 rfl ⟨rfl, rfl, rfl⟩ rfl h1 rfl ?_
    refine x_t 121 rfl rfl rfl ?_
    refine x_g rfl ?_
    exact h

theorem bk_Ty_readWords_0 {k : Nat} {pa pb : Nat} {ga : Nat → Nat} {I : pm_II} {J : pm_JJ} {Q : Option Value → pm_H → Prop} (h : Px (k + 1) 176 m_Ty_readWords 5 [.ref 48, .ref 17] [] (hp (pm_up I 48 8 0) J (pm_RT pa pb ga)) Q) : Px (k + 1) 176 m_Ty_readWords 0 [.ref 48, .ref 17] [] (hp I J (pm_RT pa pb ga)) Q := by
  refine x_l 1 rfl rfl rfl ?_
  refine z_k 2 0 rfl (by decide) rfl ?_
  refine z_pi 5 rfl (Or.inl rfl) rfl (fun z => by cases z) ⟨rfl, rfl, rfl⟩ rfl ?_
  exact h

theorem bk_Ty_readWords_5 {k : Nat} {pa pb : Nat} {ga : Nat → Nat} {I : pm_II} {J : pm_JJ} {Q : Option Value → pm_H → Prop} (h : Px k 176 m_Ta_place 0 [.ref 17] [] (hp I J (pm_RT pa pb ga)) (fun r h' => h'.1 = 176 ∧ Px (k + 1) 176 m_Ty_readWords 17 [.ref 48, .ref 17] (r.toList ++ [.int (I 48 8), .ref 52]) h' Q)) : Px (k + 1) 176 m_Ty_readWords 5 [.ref 48, .ref 17] [] (hp I J (pm_RT pa pb ga)) Q := by
  refine x_l 6 rfl rfl rfl ?_
  refine z_gf 9 (.ref 52) rfl ⟨rfl, rfl, rfl⟩ rfl rfl ?_
  refine x_l 10 rfl rfl rfl ?_
  refine z_gf 13 (.int (I 48 8)) rfl ⟨rfl, rfl, rfl⟩ rfl rfl ?_
  refine x_l 14 rfl rfl rfl ?_
  exact z_cv (As := []) (rest := [.int (I 48 8), .ref 52]) (b := 17) rfl at_Ta_place rfl rfl (Nat.le_of_ble_eq_true rfl) (Nat.le_of_ble_eq_true rfl) ⟨rfl, rfl, rfl⟩ (by decide) rfl h

theorem bk_Ty_readWords_17 {k : Nat} {pa pb : Nat} {ga : Nat → Nat} {I : pm_II} {J : pm_JJ} {Q : Option Value → pm_H → Prop} {s1 : Int32} {s2 : Int32} (h : vp_in s1 12 ∧ Px k 176 m_Ta_readLetters 0 [.ref 17, .int 12, .int 0, .null] [] (hp (pm_up I 52 ((s1 : Int32).toNatClampNeg) s2) J (pm_RT pa pb ga)) (fun r h' => h'.1 = 176 ∧ Px (k + 1) 176 m_Ty_readWords 33 [.ref 48, .ref 17] (r.toList ++ [.int (I 48 8), .ref 53]) h' Q)) : Px (k + 1) 176 m_Ty_readWords 17 [.ref 48, .ref 17] [.int s2, .int s1, .ref 52] (hp I J (pm_RT pa pb ga)) Q := by
  have h1 := h.1
  have h := h.2
  refine z_is 18 12 rfl ⟨rfl, rfl, rfl⟩ rfl h1 rfl ?_
  refine x_l 19 rfl rfl rfl ?_
  refine z_gf 22 (.ref 53) rfl ⟨rfl, rfl, rfl⟩ rfl rfl ?_
  refine x_l 23 rfl rfl rfl ?_
  refine z_gf 26 (.int (I 48 8)) rfl ⟨rfl, rfl, rfl⟩ rfl rfl ?_
  refine x_l 27 rfl rfl rfl ?_
  refine z_k 29 12 rfl (by decide) rfl ?_
  refine z_k 30 0 rfl (by decide) rfl ?_
  exact z_cv (As := [.int 12, .int 0]) (rest := [.int (I 48 8), .ref 53]) (b := 17) rfl at_Ta_readLetters rfl rfl (Nat.le_of_ble_eq_true rfl) (Nat.le_of_ble_eq_true rfl) ⟨rfl, rfl, rfl⟩ (by decide) rfl h

theorem bk_Ty_readWords_33 {k : Nat} {pa pb : Nat} {ga : Nat → Nat} {I : pm_II} {J : pm_JJ} {Q : Option Value → pm_H → Prop} {s1 : Int32} {s2 : Int32} (h : vp_in s1 12 ∧ ((12 ≤ ((I 48 8) + (1 : Int32)) → Px (k + 1) 176 m_Ty_readWords 62 [.ref 48, .ref 17] [] (hp (pm_up (pm_up I 53 ((s1 : Int32).toNatClampNeg) s2) 48 8 ((I 48 8) + (1 : Int32))) J (pm_RT pa pb ga)) Q) ∧ (¬ (12 ≤ ((I 48 8) + (1 : Int32))) → Px k 176 m_Ta_takes 0 [.ref 17, .int 32] [] (hp (pm_up (pm_up I 53 ((s1 : Int32).toNatClampNeg) s2) 48 8 ((I 48 8) + (1 : Int32))) J (pm_RT pa pb ga)) (fun r h' => h'.1 = 176 ∧ Px (k + 1) 176 m_Ty_readWords 59 [.ref 48, .ref 17] (r.toList ++ []) h' Q)))) : Px (k + 1) 176 m_Ty_readWords 33 [.ref 48, .ref 17] [.int s2, .int s1, .ref 53] (hp I J (pm_RT pa pb ga)) Q := by
  have h1 := h.1
  have h := h.2
  refine z_is 34 12 rfl ⟨rfl, rfl, rfl⟩ rfl h1 rfl ?_
  refine x_l 35 rfl rfl rfl ?_
  refine x_s 36 rfl rfl rfl ?_
  refine z_gf 39 (.int (I 48 8)) rfl ⟨rfl, rfl, rfl⟩ rfl rfl ?_
  refine z_k 40 1 rfl (by decide) rfl ?_
  refine x_s 41 rfl rfl rfl ?_
  refine z_pi 44 rfl (Or.inl rfl) rfl (fun z => by cases z) ⟨rfl, rfl, rfl⟩ rfl ?_
  refine x_l 45 rfl rfl rfl ?_
  refine z_gf 48 (.int ((I 48 8) + (1 : Int32))) rfl ⟨rfl, rfl, rfl⟩ rfl rfl ?_
  refine z_k 50 12 rfl (by decide) rfl ?_
  refine x_b 53 rfl rfl rfl (fun c => ?_) (fun c => ?_)
  · have h := h.1 c
    exact h
  · have h := h.2 c
    refine x_l 54 rfl rfl rfl ?_
    refine z_k 56 32 rfl (by decide) rfl ?_
    exact z_cv (As := [.int 32]) (rest := []) (b := 17) rfl at_Ta_takes rfl rfl (Nat.le_of_ble_eq_true rfl) (Nat.le_of_ble_eq_true rfl) ⟨rfl, rfl, rfl⟩ (by decide) rfl h

theorem bk_Ty_readWords_59 {k : Nat} {pa pb : Nat} {ga : Nat → Nat} {I : pm_II} {J : pm_JJ} {Q : Option Value → pm_H → Prop} {s0 : Int32} (h : ((¬ s0 = 0 → Px (k + 1) 176 m_Ty_readWords 5 [.ref 48, .ref 17] [] (hp I J (pm_RT pa pb ga)) Q) ∧ (¬ (¬ s0 = 0) → Px (k + 1) 176 m_Ty_readWords 62 [.ref 48, .ref 17] [] (hp I J (pm_RT pa pb ga)) Q))) : Px (k + 1) 176 m_Ty_readWords 59 [.ref 48, .ref 17] [.int s0] (hp I J (pm_RT pa pb ga)) Q := by
  refine x_b 62 rfl rfl rfl (fun c => ?_) (fun c => ?_)
  · have h := h.1 c
    exact h
  · have h := h.2 c
    exact h

theorem bk_Ty_readWords_62 {k : Nat} {pa pb : Nat} {ga : Nat → Nat} {I : pm_II} {J : pm_JJ} {Q : Option Value → pm_H → Prop} (h : Px k 176 m_Ta_expect 0 [.ref 17, .int 10] [] (hp I J (pm_RT pa pb ga)) (fun r h' => h'.1 = 176 ∧ Px (k + 1) 176 m_Ty_readWords 68 [.ref 48, .ref 17] (r.toList ++ []) h' Q)) : Px (k + 1) 176 m_Ty_readWords 62 [.ref 48, .ref 17] [] (hp I J (pm_RT pa pb ga)) Q := by
  refine x_l 63 rfl rfl rfl ?_
  refine z_k 65 10 rfl (by decide) rfl ?_
  exact z_cv (As := [.int 10]) (rest := []) (b := 17) rfl at_Ta_expect rfl rfl (Nat.le_of_ble_eq_true rfl) (Nat.le_of_ble_eq_true rfl) ⟨rfl, rfl, rfl⟩ (by decide) rfl h

theorem bk_Ty_readWords_68 {k : Nat} {pa pb : Nat} {ga : Nat → Nat} {I : pm_II} {J : pm_JJ} {Q : Option Value → pm_H → Prop} (h : Px k 176 m_Ta_finish 0 [.ref 17] [] (hp I J (pm_RT pa pb ga)) (fun r h' => h'.1 = 176 ∧ Px (k + 1) 176 m_Ty_readWords 72 [.ref 48, .ref 17] (r.toList ++ []) h' Q)) : Px (k + 1) 176 m_Ty_readWords 68 [.ref 48, .ref 17] [] (hp I J (pm_RT pa pb ga)) Q := by
  refine x_l 69 rfl rfl rfl ?_
  exact z_cv (As := []) (rest := []) (b := 17) rfl at_Ta_finish rfl rfl (Nat.le_of_ble_eq_true rfl) (Nat.le_of_ble_eq_true rfl) ⟨rfl, rfl, rfl⟩ (by decide) rfl h

theorem bk_Ty_readWords_72 {k : Nat} {pa pb : Nat} {ga : Nat → Nat} {I : pm_II} {J : pm_JJ} {Q : Option Value → pm_H → Prop} (h : Q none (hp I J (pm_RT pa pb ga))) : Px (k + 1) 176 m_Ty_readWords 72 [.ref 48, .ref 17] [] (hp I J (pm_RT pa pb ga)) Q := by
  exact x_rv rfl rfl h

theorem bk_Ty_measureWords_0 {k : Nat} {pa pb : Nat} {ga : Nat → Nat} {I : pm_II} {J : pm_JJ} {Q : Option Value → pm_H → Prop} (h : Px (k + 1) 176 m_Ty_measureWords 2 [.ref 48, .ref 17, .int 0, .null, .null] [] (hp I J (pm_RT pa pb ga)) Q) : Px (k + 1) 176 m_Ty_measureWords 0 [.ref 48, .ref 17, .null, .null, .null] [] (hp I J (pm_RT pa pb ga)) Q := by
  refine z_k 1 0 rfl (by decide) rfl ?_
  refine x_t 2 rfl rfl rfl ?_
  exact h

theorem bk_Ty_measureWords_2 {k : Nat} {pa pb : Nat} {ga : Nat → Nat} {I : pm_II} {J : pm_JJ} {Q : Option Value → pm_H → Prop} {x2 : Int32} (h : ((26 ≤ x2 → Px (k + 1) 176 m_Ty_measureWords 23 [.ref 48, .ref 17, .int 0, .null, .null] [] (hp I J (pm_RT pa pb ga)) Q) ∧ (¬ (26 ≤ x2) → vp_in x2 26 ∧ Px (k + 1) 176 m_Ty_measureWords 2 [.ref 48, .ref 17, .int (x2 + Int32.ofInt 1), .null, .null] [] (hp (pm_up I 51 ((x2 : Int32).toNatClampNeg) 0) J (pm_RT pa pb ga)) Q))) : Px (k + 1) 176 m_Ty_measureWords 2 [.ref 48, .ref 17, .int x2, .null, .null] [] (hp I J (pm_RT pa pb ga)) Q := by
  refine x_l 3 rfl rfl rfl ?_
  refine z_k 5 26 rfl (by decide) rfl ?_
  refine x_b 8 rfl rfl rfl (fun c => ?_) (fun c => ?_)
  · have h := h.1 c
    refine z_k 22 0 rfl (by decide) rfl ?_
    refine x_t 23 rfl rfl rfl ?_
    exact h
  · have h := h.2 c
    refine x_l 9 rfl rfl rfl ?_
    refine z_gf 12 (.ref 51) rfl ⟨rfl, rfl, rfl⟩ rfl rfl ?_
    refine x_l 13 rfl rfl rfl ?_
    refine z_k 14 0 rfl (by decide) rfl ?_
    have h1 := h.1
    have h := h.2
    refine z_is 15 26 rfl ⟨rfl, rfl, rfl⟩ rfl h1 rfl ?_
    refine x_t 18 rfl rfl rfl ?_
    refine x_g rfl ?_
    exact h

theorem bk_Ty_measureWords_23 {k : Nat} {pa pb : Nat} {ga : Nat → Nat} {I : pm_II} {J : pm_JJ} {Q : Option Value → pm_H → Prop} {x2 : Int32} (h : (((I 48 8) ≤ x2 → Px (k + 1) 176 m_Ty_measureWords 124 [.ref 48, .ref 17, .int x2, .null, .null] [] (hp I J (pm_RT pa pb ga)) Q) ∧ (¬ ((I 48 8) ≤ x2) → ((12 ≤ x2 → Px (k + 1) 176 m_Ty_measureWords 124 [.ref 48, .ref 17, .int x2, .null, .null] [] (hp I J (pm_RT pa pb ga)) Q) ∧ (¬ (12 ≤ x2) → vp_in x2 12 ∧ Px (k + 1) 176 m_Ty_measureWords 46 [.ref 48, .ref 17, .int x2, .int 0, .null] [] (hp (pm_up I 54 ((x2 : Int32).toNatClampNeg) 0) J (pm_RT pa pb ga)) Q))))) : Px (k + 1) 176 m_Ty_measureWords 23 [.ref 48, .ref 17, .int x2, .null, .null] [] (hp I J (pm_RT pa pb ga)) Q := by
  refine x_l 24 rfl rfl rfl ?_
  refine x_l 25 rfl rfl rfl ?_
  refine z_gf 28 (.int (I 48 8)) rfl ⟨rfl, rfl, rfl⟩ rfl rfl ?_
  refine x_b 31 rfl rfl rfl (fun c => ?_) (fun c => ?_)
  · have h := h.1 c
    exact h
  · have h := h.2 c
    refine x_l 32 rfl rfl rfl ?_
    refine z_k 34 12 rfl (by decide) rfl ?_
    refine x_b 37 rfl rfl rfl (fun c => ?_) (fun c => ?_)
    · have h := h.1 c
      exact h
    · have h := h.2 c
      refine x_l 38 rfl rfl rfl ?_
      refine z_gf 41 (.ref 54) rfl ⟨rfl, rfl, rfl⟩ rfl rfl ?_
      refine x_l 42 rfl rfl rfl ?_
      refine z_k 43 0 rfl (by decide) rfl ?_
      have h1 := h.1
      have h := h.2
      refine z_is 44 12 rfl ⟨rfl, rfl, rfl⟩ rfl h1 rfl ?_
      refine z_k 45 0 rfl (by decide) rfl ?_
      refine x_t 46 rfl rfl rfl ?_
      exact h

theorem bk_Ty_measureWords_46 {k : Nat} {pa pb : Nat} {ga : Nat → Nat} {I : pm_II} {J : pm_JJ} {Q : Option Value → pm_H → Prop} {x2 : Int32} {x3 : Int32} (h : vp_in x2 12 ∧ (((I 53 ((x2 : Int32).toNatClampNeg)) ≤ x3 → Px (k + 1) 176 m_Ty_measureWords 23 [.ref 48, .ref 17, .int (x2 + Int32.ofInt 1), .int x3, .null] [] (hp I J (pm_RT pa pb ga)) Q) ∧ (¬ ((I 53 ((x2 : Int32).toNatClampNeg)) ≤ x3) → vp_in x2 12 ∧ Px k 176 m_Ta_byteAt 0 [.ref 17, .int ((I 52 ((x2 : Int32).toNatClampNeg)) + x3)] [] (hp I J (pm_RT pa pb ga)) (fun r h' => h'.1 = 176 ∧ Px (k + 1) 176 m_Ty_measureWords 68 [.ref 48, .ref 17, .int x2, .int x3, .null] (r.toList ++ []) h' Q)))) : Px (k + 1) 176 m_Ty_measureWords 46 [.ref 48, .ref 17, .int x2, .int x3, .null] [] (hp I J (pm_RT pa pb ga)) Q := by
  refine x_l 47 rfl rfl rfl ?_
  refine x_l 48 rfl rfl rfl ?_
  refine z_gf 51 (.ref 53) rfl ⟨rfl, rfl, rfl⟩ rfl rfl ?_
  refine x_l 52 rfl rfl rfl ?_
  have h1 := h.1
  have h := h.2
  refine z_il 53 12 rfl ⟨rfl, rfl, rfl⟩ rfl h1 rfl ?_
  refine x_b 56 rfl rfl rfl (fun c => ?_) (fun c => ?_)
  · have h := h.1 c
    refine x_t 121 rfl rfl rfl ?_
    refine x_g rfl ?_
    exact h
  · have h := h.2 c
    refine x_l 57 rfl rfl rfl ?_
    refine x_l 58 rfl rfl rfl ?_
    refine z_gf 61 (.ref 52) rfl ⟨rfl, rfl, rfl⟩ rfl rfl ?_
    refine x_l 62 rfl rfl rfl ?_
    have h1 := h.1
    have h := h.2
    refine z_il 63 12 rfl ⟨rfl, rfl, rfl⟩ rfl h1 rfl ?_
    refine x_l 64 rfl rfl rfl ?_
    refine x_s 65 rfl rfl rfl ?_
    exact z_cv (As := [.int ((I 52 ((x2 : Int32).toNatClampNeg)) + x3)]) (rest := []) (b := 17) rfl at_Ta_byteAt rfl rfl (Nat.le_of_ble_eq_true rfl) (Nat.le_of_ble_eq_true rfl) ⟨rfl, rfl, rfl⟩ (by decide) rfl h

theorem bk_Ty_measureWords_68 {k : Nat} {pa pb : Nat} {ga : Nat → Nat} {I : pm_II} {J : pm_JJ} {Q : Option Value → pm_H → Prop} {x2 : Int32} {x3 : Int32} {s0 : Int32} (h : (((s0 - (97 : Int32)) < 0 → Px (k + 1) 176 m_Ty_measureWords 46 [.ref 48, .ref 17, .int x2, .int (x3 + Int32.ofInt 1), .int (s0 - (97 : Int32))] [] (hp I J (pm_RT pa pb ga)) Q) ∧ (¬ ((s0 - (97 : Int32)) < 0) → ((26 ≤ (s0 - (97 : Int32)) → Px (k + 1) 176 m_Ty_measureWords 46 [.ref 48, .ref 17, .int x2, .int (x3 + Int32.ofInt 1), .int (s0 - (97 : Int32))] [] (hp I J (pm_RT pa pb ga)) Q) ∧ (¬ (26 ≤ (s0 - (97 : Int32))) → vp_in (s0 - (97 : Int32)) 26 ∧ vp_in (s0 - (97 : Int32)) 26 ∧ vp_in x2 12 ∧ vp_in (s0 - (97 : Int32)) 26 ∧ vp_in x2 12 ∧ Px (k + 1) 176 m_Ty_measureWords 46 [.ref 48, .ref 17, .int x2, .int (x3 + Int32.ofInt 1), .int (s0 - (97 : Int32))] [] (hp (pm_up (pm_up I 51 (((s0 - (97 : Int32)) : Int32).toNatClampNeg) ((I 51 (((s0 - (97 : Int32)) : Int32).toNatClampNeg)) + (1 : Int32))) 54 ((x2 : Int32).toNatClampNeg) ((I 54 ((x2 : Int32).toNatClampNeg)) + (I 50 (((s0 - (97 : Int32)) : Int32).toNatClampNeg)))) J (pm_RT pa pb ga)) Q))))) : Px (k + 1) 176 m_Ty_measureWords 68 [.ref 48, .ref 17, .int x2, .int x3, .null] [.int s0] (hp I J (pm_RT pa pb ga)) Q := by
  refine z_k 70 97 rfl (by decide) rfl ?_
  refine x_s 71 rfl rfl rfl ?_
  refine x_t 73 rfl rfl rfl ?_
  refine x_l 75 rfl rfl rfl ?_
  refine x_b 78 rfl rfl rfl (fun c => ?_) (fun c => ?_)
  · have h := h.1 c
    refine x_t 115 rfl rfl rfl ?_
    refine x_g rfl ?_
    exact h
  · have h := h.2 c
    refine x_l 80 rfl rfl rfl ?_
    refine z_k 82 26 rfl (by decide) rfl ?_
    refine x_b 85 rfl rfl rfl (fun c => ?_) (fun c => ?_)
    · have h := h.1 c
      refine x_t 115 rfl rfl rfl ?_
      refine x_g rfl ?_
      exact h
    · have h := h.2 c
      refine x_l 86 rfl rfl rfl ?_
      refine z_gf 89 (.ref 51) rfl ⟨rfl, rfl, rfl⟩ rfl rfl ?_
      refine x_l 91 rfl rfl rfl ?_
      refine x_s 92 rfl rfl rfl ?_
      have h1 := h.1
      have h := h.2
      refine z_il 93 26 rfl ⟨rfl, rfl, rfl⟩ rfl h1 rfl ?_
      refine z_k 94 1 rfl (by decide) rfl ?_
      refine x_s 95 rfl rfl rfl ?_
      have h1 := h.1
      have h := h.2
      refine z_is 96 26 rfl ⟨rfl, rfl, rfl⟩ rfl h1 rfl ?_
      refine x_l 97 rfl rfl rfl ?_
      refine z_gf 100 (.ref 54) rfl ⟨rfl, rfl, rfl⟩ rfl rfl ?_
      refine x_l 101 rfl rfl rfl ?_
      refine x_s 102 rfl rfl rfl ?_
      have h1 := h.1
      have h := h.2
      refine z_il 103 12 rfl ⟨rfl, rfl, rfl⟩ rfl h1 rfl ?_
      refine x_l 104 rfl rfl rfl ?_
      refine z_gf 107 (.ref 50) rfl ⟨rfl, rfl, rfl⟩ rfl rfl ?_
      refine x_l 109 rfl rfl rfl ?_
      have h1 := h.1
      have h := h.2
      refine z_il 110 26 rfl ⟨rfl, rfl, rfl⟩ rfl h1 rfl ?_
      refine x_s 111 rfl rfl rfl ?_
      have h1 := h.1
      have h := h.2
      refine z_is 112 12 rfl ⟨rfl, rfl, rfl⟩ rfl h1 rfl ?_
      refine x_t 115 rfl rfl rfl ?_
      refine x_g rfl ?_
      exact h

theorem bk_Ty_measureWords_124 {k : Nat} {pa pb : Nat} {ga : Nat → Nat} {I : pm_II} {J : pm_JJ} {Q : Option Value → pm_H → Prop} {x2 : Int32} (h : Q none (hp I J (pm_RT pa pb ga))) : Px (k + 1) 176 m_Ty_measureWords 124 [.ref 48, .ref 17, .int x2, .null, .null] [] (hp I J (pm_RT pa pb ga)) Q := by
  exact x_rv rfl rfl h

theorem bk_Ty_enoughSorts_0 {k : Nat} {pa pb : Nat} {ga : Nat → Nat} {I : pm_II} {J : pm_JJ} {Q : Option Value → pm_H → Prop} (h : Px k 176 m_Ty_enoughSorts 2 [.ref 48, .int 0] [] (hp I J (pm_RT pa pb ga)) Q) : Px k 176 m_Ty_enoughSorts 0 [.ref 48, .null] [] (hp I J (pm_RT pa pb ga)) Q := by
  refine z_k 1 0 rfl (by decide) rfl ?_
  refine x_t 2 rfl rfl rfl ?_
  exact h

theorem bk_Ty_enoughSorts_2 {k : Nat} {pa pb : Nat} {ga : Nat → Nat} {I : pm_II} {J : pm_JJ} {Q : Option Value → pm_H → Prop} {x1 : Int32} (h : ((26 ≤ x1 → Q (some (.int 1)) (hp I J (pm_RT pa pb ga))) ∧ (¬ (26 ≤ x1) → vp_in x1 26 ∧ vp_in x1 26 ∧ (((I 51 ((x1 : Int32).toNatClampNeg)) ≤ (I 49 ((x1 : Int32).toNatClampNeg)) → Px k 176 m_Ty_enoughSorts 2 [.ref 48, .int (x1 + Int32.ofInt 1)] [] (hp I J (pm_RT pa pb ga)) Q) ∧ (¬ ((I 51 ((x1 : Int32).toNatClampNeg)) ≤ (I 49 ((x1 : Int32).toNatClampNeg))) → Q (some (.int 0)) (hp I J (pm_RT pa pb ga))))))) : Px k 176 m_Ty_enoughSorts 2 [.ref 48, .int x1] [] (hp I J (pm_RT pa pb ga)) Q := by
  refine x_l 3 rfl rfl rfl ?_
  refine z_k 5 26 rfl (by decide) rfl ?_
  refine x_b 8 rfl rfl rfl (fun c => ?_) (fun c => ?_)
  · have h := h.1 c
    refine z_k 32 1 rfl (by decide) rfl ?_
    exact x_ri rfl (Or.inr ⟨rfl, Or.inr rfl⟩) h
  · have h := h.2 c
    refine x_l 9 rfl rfl rfl ?_
    refine z_gf 12 (.ref 51) rfl ⟨rfl, rfl, rfl⟩ rfl rfl ?_
    refine x_l 13 rfl rfl rfl ?_
    have h1 := h.1
    have h := h.2
    refine z_il 14 26 rfl ⟨rfl, rfl, rfl⟩ rfl h1 rfl ?_
    refine x_l 15 rfl rfl rfl ?_
    refine z_gf 18 (.ref 49) rfl ⟨rfl, rfl, rfl⟩ rfl rfl ?_
    refine x_l 19 rfl rfl rfl ?_
    have h1 := h.1
    have h := h.2
    refine z_il 20 26 rfl ⟨rfl, rfl, rfl⟩ rfl h1 rfl ?_
    refine x_b 23 rfl rfl rfl (fun c => ?_) (fun c => ?_)
    · have h := h.1 c
      refine x_t 28 rfl rfl rfl ?_
      refine x_g rfl ?_
      exact h
    · have h := h.2 c
      refine z_k 24 0 rfl (by decide) rfl ?_
      exact x_ri rfl (Or.inr ⟨rfl, Or.inl rfl⟩) h

theorem bk_Ty_wordsFit_0 {k : Nat} {pa pb : Nat} {ga : Nat → Nat} {I : pm_II} {J : pm_JJ} {Q : Option Value → pm_H → Prop} {x1 : Int32} (h : Px k 176 m_Ty_wordsFit 2 [.ref 48, .int x1, .int 0] [] (hp I J (pm_RT pa pb ga)) Q) : Px k 176 m_Ty_wordsFit 0 [.ref 48, .int x1, .null] [] (hp I J (pm_RT pa pb ga)) Q := by
  refine z_k 1 0 rfl (by decide) rfl ?_
  refine x_t 2 rfl rfl rfl ?_
  exact h

theorem bk_Ty_wordsFit_2 {k : Nat} {pa pb : Nat} {ga : Nat → Nat} {I : pm_II} {J : pm_JJ} {Q : Option Value → pm_H → Prop} {x1 : Int32} {x2 : Int32} (h : (((I 48 8) ≤ x2 → Px k 176 m_Ty_wordsFit 34 [.ref 48, .int x1, .int x2] [] (hp I J (pm_RT pa pb ga)) Q) ∧ (¬ ((I 48 8) ≤ x2) → ((12 ≤ x2 → Px k 176 m_Ty_wordsFit 34 [.ref 48, .int x1, .int x2] [] (hp I J (pm_RT pa pb ga)) Q) ∧ (¬ (12 ≤ x2) → vp_in x2 12 ∧ (((I 54 ((x2 : Int32).toNatClampNeg)) ≤ x1 → Px k 176 m_Ty_wordsFit 2 [.ref 48, .int x1, .int (x2 + Int32.ofInt 1)] [] (hp I J (pm_RT pa pb ga)) Q) ∧ (¬ ((I 54 ((x2 : Int32).toNatClampNeg)) ≤ x1) → Q (some (.int 0)) (hp I J (pm_RT pa pb ga))))))))) : Px k 176 m_Ty_wordsFit 2 [.ref 48, .int x1, .int x2] [] (hp I J (pm_RT pa pb ga)) Q := by
  refine x_l 3 rfl rfl rfl ?_
  refine x_l 4 rfl rfl rfl ?_
  refine z_gf 7 (.int (I 48 8)) rfl ⟨rfl, rfl, rfl⟩ rfl rfl ?_
  refine x_b 10 rfl rfl rfl (fun c => ?_) (fun c => ?_)
  · have h := h.1 c
    exact h
  · have h := h.2 c
    refine x_l 11 rfl rfl rfl ?_
    refine z_k 13 12 rfl (by decide) rfl ?_
    refine x_b 16 rfl rfl rfl (fun c => ?_) (fun c => ?_)
    · have h := h.1 c
      exact h
    · have h := h.2 c
      refine x_l 17 rfl rfl rfl ?_
      refine z_gf 20 (.ref 54) rfl ⟨rfl, rfl, rfl⟩ rfl rfl ?_
      refine x_l 21 rfl rfl rfl ?_
      have h1 := h.1
      have h := h.2
      refine z_il 22 12 rfl ⟨rfl, rfl, rfl⟩ rfl h1 rfl ?_
      refine x_l 23 rfl rfl rfl ?_
      refine x_b 26 rfl rfl rfl (fun c => ?_) (fun c => ?_)
      · have h := h.1 c
        refine x_t 31 rfl rfl rfl ?_
        refine x_g rfl ?_
        exact h
      · have h := h.2 c
        refine z_k 27 0 rfl (by decide) rfl ?_
        exact x_ri rfl (Or.inr ⟨rfl, Or.inl rfl⟩) h

theorem bk_Ty_wordsFit_34 {k : Nat} {pa pb : Nat} {ga : Nat → Nat} {I : pm_II} {J : pm_JJ} {Q : Option Value → pm_H → Prop} {x1 : Int32} {x2 : Int32} (h : Q (some (.int 1)) (hp I J (pm_RT pa pb ga))) : Px k 176 m_Ty_wordsFit 34 [.ref 48, .int x1, .int x2] [] (hp I J (pm_RT pa pb ga)) Q := by
  refine z_k 35 1 rfl (by decide) rfl ?_
  exact x_ri rfl (Or.inr ⟨rfl, Or.inr rfl⟩) h

theorem bk_Ty_breakLines_0 {k : Nat} {pa pb : Nat} {ga : Nat → Nat} {I : pm_II} {J : pm_JJ} {Q : Option Value → pm_H → Prop} {x1 : Int32} (h : Px k 176 m_Ty_breakLines 7 [.ref 48, .int x1, .int 0, .int 0, .int 0, .null] [] (hp I J (pm_RT pa pb ga)) Q) : Px k 176 m_Ty_breakLines 0 [.ref 48, .int x1, .null, .null, .null, .null] [] (hp I J (pm_RT pa pb ga)) Q := by
  refine z_k 1 0 rfl (by decide) rfl ?_
  refine x_t 2 rfl rfl rfl ?_
  refine z_k 3 0 rfl (by decide) rfl ?_
  refine x_t 4 rfl rfl rfl ?_
  refine z_k 5 0 rfl (by decide) rfl ?_
  refine x_t 7 rfl rfl rfl ?_
  exact h

theorem bk_Ty_breakLines_7 {k : Nat} {pa pb : Nat} {ga : Nat → Nat} {I : pm_II} {J : pm_JJ} {Q : Option Value → pm_H → Prop} {x1 : Int32} {x2 : Int32} {x3 : Int32} {x4 : Int32} (h : (((I 48 8) ≤ x4 → Px k 176 m_Ty_breakLines 76 [.ref 48, .int x1, .int x2, .int x3, .int x4, .null] [] (hp I J (pm_RT pa pb ga)) Q) ∧ (¬ ((I 48 8) ≤ x4) → ((12 ≤ x4 → Px k 176 m_Ty_breakLines 76 [.ref 48, .int x1, .int x2, .int x3, .int x4, .null] [] (hp I J (pm_RT pa pb ga)) Q) ∧ (¬ (12 ≤ x4) → vp_in x4 12 ∧ ((x4 = 0 → Px k 176 m_Ty_breakLines 47 [.ref 48, .int x1, .int x2, .int x3, .int x4, .int ((x3 + (3 : Int32)) + (I 54 ((x4 : Int32).toNatClampNeg)))] [] (hp I J (pm_RT pa pb ga)) Q) ∧ (¬ (x4 = 0) → ((((x3 + (3 : Int32)) + (I 54 ((x4 : Int32).toNatClampNeg))) ≤ x1 → Px k 176 m_Ty_breakLines 7 [.ref 48, .int x1, .int x2, .int ((x3 + (3 : Int32)) + (I 54 ((x4 : Int32).toNatClampNeg))), .int (x4 + Int32.ofInt 1), .int ((x3 + (3 : Int32)) + (I 54 ((x4 : Int32).toNatClampNeg)))] [] (hp I J (pm_RT pa pb ga)) Q) ∧ (¬ (((x3 + (3 : Int32)) + (I 54 ((x4 : Int32).toNatClampNeg))) ≤ x1) → Px k 176 m_Ty_breakLines 47 [.ref 48, .int x1, .int x2, .int x3, .int x4, .int ((x3 + (3 : Int32)) + (I 54 ((x4 : Int32).toNatClampNeg)))] [] (hp I J (pm_RT pa pb ga)) Q))))))))) : Px k 176 m_Ty_breakLines 7 [.ref 48, .int x1, .int x2, .int x3, .int x4, .null] [] (hp I J (pm_RT pa pb ga)) Q := by
  refine x_l 9 rfl rfl rfl ?_
  refine x_l 10 rfl rfl rfl ?_
  refine z_gf 13 (.int (I 48 8)) rfl ⟨rfl, rfl, rfl⟩ rfl rfl ?_
  refine x_b 16 rfl rfl rfl (fun c => ?_) (fun c => ?_)
  · have h := h.1 c
    exact h
  · have h := h.2 c
    refine x_l 18 rfl rfl rfl ?_
    refine z_k 20 12 rfl (by decide) rfl ?_
    refine x_b 23 rfl rfl rfl (fun c => ?_) (fun c => ?_)
    · have h := h.1 c
      exact h
    · have h := h.2 c
      refine x_l 24 rfl rfl rfl ?_
      refine z_k 25 3 rfl (by decide) rfl ?_
      refine x_s 26 rfl rfl rfl ?_
      refine x_l 27 rfl rfl rfl ?_
      refine z_gf 30 (.ref 54) rfl ⟨rfl, rfl, rfl⟩ rfl rfl ?_
      refine x_l 32 rfl rfl rfl ?_
      have h1 := h.1
      have h := h.2
      refine z_il 33 12 rfl ⟨rfl, rfl, rfl⟩ rfl h1 rfl ?_
      refine x_s 34 rfl rfl rfl ?_
      refine x_t 36 rfl rfl rfl ?_
      refine x_l 38 rfl rfl rfl ?_
      refine x_b 41 rfl rfl rfl (fun c => ?_) (fun c => ?_)
      · have h := h.1 c
        exact h
      · have h := h.2 c
        refine x_l 43 rfl rfl rfl ?_
        refine x_l 44 rfl rfl rfl ?_
        refine x_b 47 rfl rfl rfl (fun c => ?_) (fun c => ?_)
        · have h := h.1 c
          refine x_l 69 rfl rfl rfl ?_
          refine x_t 70 rfl rfl rfl ?_
          refine x_t 73 rfl rfl rfl ?_
          refine x_g rfl ?_
          exact h
        · have h := h.2 c
          exact h

theorem bk_Ty_breakLines_47 {k : Nat} {pa pb : Nat} {ga : Nat → Nat} {I : pm_II} {J : pm_JJ} {Q : Option Value → pm_H → Prop} {x1 : Int32} {x2 : Int32} {x3 : Int32} {x4 : Int32} {x5 : Int32} (h : vp_in x2 13 ∧ vp_in x4 12 ∧ Px k 176 m_Ty_breakLines 7 [.ref 48, .int x1, .int (x2 + Int32.ofInt 1), .int (I 54 ((x4 : Int32).toNatClampNeg)), .int (x4 + Int32.ofInt 1), .int (I 54 ((x4 : Int32).toNatClampNeg))] [] (hp (pm_up I 55 ((x2 : Int32).toNatClampNeg) x4) J (pm_RT pa pb ga)) Q) : Px k 176 m_Ty_breakLines 47 [.ref 48, .int x1, .int x2, .int x3, .int x4, .int x5] [] (hp I J (pm_RT pa pb ga)) Q := by
  refine x_l 48 rfl rfl rfl ?_
  refine z_gf 51 (.ref 55) rfl ⟨rfl, rfl, rfl⟩ rfl rfl ?_
  refine x_l 52 rfl rfl rfl ?_
  refine x_l 54 rfl rfl rfl ?_
  have h1 := h.1
  have h := h.2
  refine z_is 55 13 rfl ⟨rfl, rfl, rfl⟩ rfl h1 rfl ?_
  refine x_t 58 rfl rfl rfl ?_
  refine x_l 59 rfl rfl rfl ?_
  refine z_gf 62 (.ref 54) rfl ⟨rfl, rfl, rfl⟩ rfl rfl ?_
  refine x_l 64 rfl rfl rfl ?_
  have h1 := h.1
  have h := h.2
  refine z_il 65 12 rfl ⟨rfl, rfl, rfl⟩ rfl h1 rfl ?_
  refine x_t 67 rfl rfl rfl ?_
  refine x_l 69 rfl rfl rfl ?_
  refine x_t 70 rfl rfl rfl ?_
  refine x_t 73 rfl rfl rfl ?_
  refine x_g rfl ?_
  exact h

theorem bk_Ty_breakLines_76 {k : Nat} {pa pb : Nat} {ga : Nat → Nat} {I : pm_II} {J : pm_JJ} {Q : Option Value → pm_H → Prop} {x1 : Int32} {x2 : Int32} {x3 : Int32} {x4 : Int32} (h : vp_in x2 13 ∧ Q (some (.int x2)) (hp (pm_up I 55 ((x2 : Int32).toNatClampNeg) (I 48 8)) J (pm_RT pa pb ga))) : Px k 176 m_Ty_breakLines 76 [.ref 48, .int x1, .int x2, .int x3, .int x4, .null] [] (hp I J (pm_RT pa pb ga)) Q := by
  refine x_l 77 rfl rfl rfl ?_
  refine z_gf 80 (.ref 55) rfl ⟨rfl, rfl, rfl⟩ rfl rfl ?_
  refine x_l 81 rfl rfl rfl ?_
  refine x_l 82 rfl rfl rfl ?_
  refine z_gf 85 (.int (I 48 8)) rfl ⟨rfl, rfl, rfl⟩ rfl rfl ?_
  have h1 := h.1
  have h := h.2
  refine z_is 86 13 rfl ⟨rfl, rfl, rfl⟩ rfl h1 rfl ?_
  refine x_l 87 rfl rfl rfl ?_
  exact x_ri rfl (Or.inl rfl) h

theorem bk_Ty_layLine_0 {k : Nat} {pa pb : Nat} {ga : Nat → Nat} {I : pm_II} {J : pm_JJ} {Q : Option Value → pm_H → Prop} {x2 : Int32} {x3 : Int32} {x4 : Int32} (h : ((x2 < 0 → Q none (hp I J (pm_RT pa pb ga))) ∧ (¬ (x2 < 0) → ((12 ≤ x2 → Q none (hp I J (pm_RT pa pb ga))) ∧ (¬ (12 ≤ x2) → (((I 48 9) < 16 → vp_in x2 13 ∧ vp_in (x2 + (1 : Int32)) 13 ∧ Px k 176 m_Jm_min_II 0 [.int (I 55 (((x2 + (1 : Int32)) : Int32).toNatClampNeg)), .int 12] [] (hp I J (pm_RT pa pb ga)) (fun r h' => h'.1 = 176 ∧ Px (k + 1) 176 m_Ty_layLine 41 [.ref 48, .ref 17, .int x2, .int x3, .int x4, .int (I 55 ((x2 : Int32).toNatClampNeg)), .null, .null, .null, .null, .null, .null, .null] (r.toList ++ []) h' Q)) ∧ (¬ ((I 48 9) < 16) → Q none (hp I J (pm_RT pa pb ga))))))))) : Px (k + 1) 176 m_Ty_layLine 0 [.ref 48, .ref 17, .int x2, .int x3, .int x4, .null, .null, .null, .null, .null, .null, .null, .null] [] (hp I J (pm_RT pa pb ga)) Q := by
  refine x_l 1 rfl rfl rfl ?_
  refine x_b 4 rfl rfl rfl (fun c => ?_) (fun c => ?_)
  · have h := h.1 c
    exact x_rv rfl rfl h
  · have h := h.2 c
    refine x_l 5 rfl rfl rfl ?_
    refine z_k 7 12 rfl (by decide) rfl ?_
    refine x_b 10 rfl rfl rfl (fun c => ?_) (fun c => ?_)
    · have h := h.1 c
      exact x_rv rfl rfl h
    · have h := h.2 c
      refine x_l 11 rfl rfl rfl ?_
      refine z_gf 14 (.int (I 48 9)) rfl ⟨rfl, rfl, rfl⟩ rfl rfl ?_
      refine z_k 16 16 rfl (by decide) rfl ?_
      refine x_b 19 rfl rfl rfl (fun c => ?_) (fun c => ?_)
      · have h := h.1 c
        refine x_l 21 rfl rfl rfl ?_
        refine z_gf 24 (.ref 55) rfl ⟨rfl, rfl, rfl⟩ rfl rfl ?_
        refine x_l 25 rfl rfl rfl ?_
        have h1 := h.1
        have h := h.2
        refine z_il 26 13 rfl ⟨rfl, rfl, rfl⟩ rfl h1 rfl ?_
        refine x_t 28 rfl rfl rfl ?_
        refine x_l 29 rfl rfl rfl ?_
        refine z_gf 32 (.ref 55) rfl ⟨rfl, rfl, rfl⟩ rfl rfl ?_
        refine x_l 33 rfl rfl rfl ?_
        refine z_k 34 1 rfl (by decide) rfl ?_
        refine x_s 35 rfl rfl rfl ?_
        have h1 := h.1
        have h := h.2
        refine z_il 36 13 rfl ⟨rfl, rfl, rfl⟩ rfl h1 rfl ?_
        refine z_k 38 12 rfl (by decide) rfl ?_
        exact z_cs (As := [.int (I 55 (((x2 + (1 : Int32)) : Int32).toNatClampNeg)), .int 12]) (rest := []) rfl at_Jm_min_II rfl rfl (Nat.le_of_ble_eq_true rfl) (Nat.le_of_ble_eq_true rfl) rfl h
      · have h := h.2 c
        exact x_rv rfl rfl h

theorem bk_Ty_layLine_41 {k : Nat} {pa pb : Nat} {ga : Nat → Nat} {I : pm_II} {J : pm_JJ} {Q : Option Value → pm_H → Prop} {x2 : Int32} {x3 : Int32} {x4 : Int32} {x5 : Int32} {s0 : Int32} (h : ((x3 = 0 → Px (k + 1) 176 m_Ty_layLine 73 [.ref 48, .ref 17, .int x2, .int x3, .int x4, .int x5, .int s0, .int ((s0 - x5) - (1 : Int32)), .int (x4 - (((s0 - x5) - (1 : Int32)) * (3 : Int32))), .int x5, .null, .null, .null] [] (hp I J (pm_RT pa pb ga)) Q) ∧ (¬ (x3 = 0) → Px (k + 1) 176 m_Ty_layLine 73 [.ref 48, .ref 17, .int x2, .int x3, .int x4, .int x5, .int s0, .int ((s0 - x5) - (1 : Int32)), .int 0, .int x5, .null, .null, .null] [] (hp I J (pm_RT pa pb ga)) Q))) : Px (k + 1) 176 m_Ty_layLine 41 [.ref 48, .ref 17, .int x2, .int x3, .int x4, .int x5, .null, .null, .null, .null, .null, .null, .null] [.int s0] (hp I J (pm_RT pa pb ga)) Q := by
  refine x_t 43 rfl rfl rfl ?_
  refine x_l 45 rfl rfl rfl ?_
  refine x_l 47 rfl rfl rfl ?_
  refine x_s 48 rfl rfl rfl ?_
  refine z_k 49 1 rfl (by decide) rfl ?_
  refine x_s 50 rfl rfl rfl ?_
  refine x_t 52 rfl rfl rfl ?_
  refine x_l 53 rfl rfl rfl ?_
  refine x_b 56 rfl rfl rfl (fun c => ?_) (fun c => ?_)
  · have h := h.1 c
    refine x_l 62 rfl rfl rfl ?_
    refine x_l 64 rfl rfl rfl ?_
    refine z_k 65 3 rfl (by decide) rfl ?_
    refine x_s 66 rfl rfl rfl ?_
    refine x_s 67 rfl rfl rfl ?_
    refine x_t 69 rfl rfl rfl ?_
    refine x_l 71 rfl rfl rfl ?_
    refine x_t 73 rfl rfl rfl ?_
    exact h
  · have h := h.2 c
    refine z_k 57 0 rfl (by decide) rfl ?_
    refine x_g rfl ?_
    refine x_t 69 rfl rfl rfl ?_
    refine x_l 71 rfl rfl rfl ?_
    refine x_t 73 rfl rfl rfl ?_
    exact h

theorem bk_Ty_layLine_73 {k : Nat} {pa pb : Nat} {ga : Nat → Nat} {I : pm_II} {J : pm_JJ} {Q : Option Value → pm_H → Prop} {x2 : Int32} {x3 : Int32} {x4 : Int32} {x5 : Int32} {x6 : Int32} {x7 : Int32} {x8 : Int32} {x9 : Int32} (h : ((x6 ≤ x9 → Px (k + 1) 176 m_Ty_layLine 102 [.ref 48, .ref 17, .int x2, .int x3, .int x4, .int x5, .int x6, .int x7, .int x8, .int x9, .null, .null, .null] [] (hp I J (pm_RT pa pb ga)) Q) ∧ (¬ (x6 ≤ x9) → ((¬ x3 = 0 → Px (k + 1) 176 m_Ty_layLine 102 [.ref 48, .ref 17, .int x2, .int x3, .int x4, .int x5, .int x6, .int x7, .int x8, .int x9, .null, .null, .null] [] (hp I J (pm_RT pa pb ga)) Q) ∧ (¬ (¬ x3 = 0) → vp_in x9 12 ∧ Px (k + 1) 176 m_Ty_layLine 73 [.ref 48, .ref 17, .int x2, .int x3, .int x4, .int x5, .int x6, .int x7, .int (x8 - (I 54 ((x9 : Int32).toNatClampNeg))), .int (x9 + Int32.ofInt 1), .null, .null, .null] [] (hp I J (pm_RT pa pb ga)) Q))))) : Px (k + 1) 176 m_Ty_layLine 73 [.ref 48, .ref 17, .int x2, .int x3, .int x4, .int x5, .int x6, .int x7, .int x8, .int x9, .null, .null, .null] [] (hp I J (pm_RT pa pb ga)) Q := by
  refine x_l 75 rfl rfl rfl ?_
  refine x_l 77 rfl rfl rfl ?_
  refine x_b 80 rfl rfl rfl (fun c => ?_) (fun c => ?_)
  · have h := h.1 c
    exact h
  · have h := h.2 c
    refine x_l 81 rfl rfl rfl ?_
    refine x_b 84 rfl rfl rfl (fun c => ?_) (fun c => ?_)
    · have h := h.1 c
      exact h
    · have h := h.2 c
      refine x_l 86 rfl rfl rfl ?_
      refine x_l 87 rfl rfl rfl ?_
      refine z_gf 90 (.ref 54) rfl ⟨rfl, rfl, rfl⟩ rfl rfl ?_
      refine x_l 92 rfl rfl rfl ?_
      have h1 := h.1
      have h := h.2
      refine z_il 93 12 rfl ⟨rfl, rfl, rfl⟩ rfl h1 rfl ?_
      refine x_s 94 rfl rfl rfl ?_
      refine x_t 96 rfl rfl rfl ?_
      refine x_t 99 rfl rfl rfl ?_
      refine x_g rfl ?_
      exact h

theorem bk_Ty_layLine_102 {k : Nat} {pa pb : Nat} {ga : Nat → Nat} {I : pm_II} {J : pm_JJ} {Q : Option Value → pm_H → Prop} {x2 : Int32} {x3 : Int32} {x4 : Int32} {x5 : Int32} {x6 : Int32} {x7 : Int32} {x8 : Int32} {x9 : Int32} (h : ((x7 ≤ 0 → Px (k + 1) 176 m_Ty_layLine 116 [.ref 48, .ref 17, .int x2, .int x3, .int x4, .int x5, .int x6, .int x7, .int x8, .int x9, .null, .null, .null] [.int 0] (hp I J (pm_RT pa pb ga)) Q) ∧ (¬ (x7 ≤ 0) → ¬ x7 = 0 ∧ Px (k + 1) 176 m_Ty_layLine 116 [.ref 48, .ref 17, .int x2, .int x3, .int x4, .int x5, .int x6, .int x7, .int x8, .int x9, .null, .null, .null] [.int (x8 / x7)] (hp I J (pm_RT pa pb ga)) Q))) : Px (k + 1) 176 m_Ty_layLine 102 [.ref 48, .ref 17, .int x2, .int x3, .int x4, .int x5, .int x6, .int x7, .int x8, .int x9, .null, .null, .null] [] (hp I J (pm_RT pa pb ga)) Q := by
  refine x_l 104 rfl rfl rfl ?_
  refine x_b 107 rfl rfl rfl (fun c => ?_) (fun c => ?_)
  · have h := h.1 c
    refine z_k 116 0 rfl (by decide) rfl ?_
    exact h
  · have h := h.2 c
    refine x_l 109 rfl rfl rfl ?_
    refine x_l 111 rfl rfl rfl ?_
    have h0 := h.1
    have h := h.2
    refine x_dv 112 rfl h0 rfl ?_
    refine x_g rfl ?_
    exact h

theorem bk_Ty_layLine_116 {k : Nat} {pa pb : Nat} {ga : Nat → Nat} {I : pm_II} {J : pm_JJ} {Q : Option Value → pm_H → Prop} {x2 : Int32} {x3 : Int32} {x4 : Int32} {x5 : Int32} {x6 : Int32} {x7 : Int32} {x8 : Int32} {x9 : Int32} {s0 : Int32} (h : ((x7 ≤ 0 → Px (k + 1) 176 m_Ty_layLine 132 [.ref 48, .ref 17, .int x2, .int x3, .int x4, .int x5, .int x6, .int x7, .int x8, .int s0, .null, .null, .null] [.int 0] (hp I J (pm_RT pa pb ga)) Q) ∧ (¬ (x7 ≤ 0) → ¬ x7 = 0 ∧ Px (k + 1) 176 m_Ty_layLine 132 [.ref 48, .ref 17, .int x2, .int x3, .int x4, .int x5, .int x6, .int x7, .int x8, .int s0, .null, .null, .null] [.int (x8 - x8 / x7 * x7)] (hp I J (pm_RT pa pb ga)) Q))) : Px (k + 1) 176 m_Ty_layLine 116 [.ref 48, .ref 17, .int x2, .int x3, .int x4, .int x5, .int x6, .int x7, .int x8, .int x9, .null, .null, .null] [.int s0] (hp I J (pm_RT pa pb ga)) Q := by
  refine x_t 118 rfl rfl rfl ?_
  refine x_l 120 rfl rfl rfl ?_
  refine x_b 123 rfl rfl rfl (fun c => ?_) (fun c => ?_)
  · have h := h.1 c
    refine z_k 132 0 rfl (by decide) rfl ?_
    exact h
  · have h := h.2 c
    refine x_l 125 rfl rfl rfl ?_
    refine x_l 127 rfl rfl rfl ?_
    have h0 := h.1
    have h := h.2
    refine x_rm 128 rfl h0 rfl ?_
    refine x_g rfl ?_
    exact h

theorem bk_Ty_layLine_132 {k : Nat} {pa pb : Nat} {ga : Nat → Nat} {I : pm_II} {J : pm_JJ} {Q : Option Value → pm_H → Prop} {x2 : Int32} {x3 : Int32} {x4 : Int32} {x5 : Int32} {x6 : Int32} {x7 : Int32} {x8 : Int32} {x9 : Int32} {s0 : Int32} (h : vp_in (I 48 9) 16 ∧ pm_ob (ga (((I 48 9) : Int32).toNatClampNeg)) 8 ∧ Px k 176 m_Tl_start 0 [.ref (ga (((I 48 9) : Int32).toNatClampNeg))] [] (hp I J (pm_RT pa pb ga)) (fun r h' => h'.1 = 176 ∧ Px (k + 1) 176 m_Ty_layLine 150 [.ref 48, .ref 17, .int x2, .int x3, .int x4, .int x5, .int x6, .int x7, .int x8, .int x9, .int s0, .ref (ga (((I 48 9) : Int32).toNatClampNeg)), .null] (r.toList ++ []) h' Q)) : Px (k + 1) 176 m_Ty_layLine 132 [.ref 48, .ref 17, .int x2, .int x3, .int x4, .int x5, .int x6, .int x7, .int x8, .int x9, .null, .null, .null] [.int s0] (hp I J (pm_RT pa pb ga)) Q := by
  refine x_t 134 rfl rfl rfl ?_
  refine x_l 135 rfl rfl rfl ?_
  refine z_gf 138 (.ref 56) rfl ⟨rfl, rfl, rfl⟩ rfl rfl ?_
  refine x_l 139 rfl rfl rfl ?_
  refine z_gf 142 (.int (I 48 9)) rfl ⟨rfl, rfl, rfl⟩ rfl rfl ?_
  have h1 := h.1
  have h := h.2
  refine z_rl 143 16 (.ref (ga (((I 48 9) : Int32).toNatClampNeg))) rfl ⟨rfl, rfl, rfl⟩ rfl h1 rfl rfl ?_
  refine x_t 145 rfl rfl rfl ?_
  refine x_l 147 rfl rfl rfl ?_
  have h0 := h.1
  have h := h.2
  exact z_cv (As := []) (rest := []) (b := (ga (((I 48 9) : Int32).toNatClampNeg))) rfl at_Tl_start rfl rfl (Nat.le_of_ble_eq_true rfl) (Nat.le_of_ble_eq_true rfl) h0 (by decide) rfl h

theorem bk_Ty_layLine_150 {k : Nat} {pa pb : Nat} {ga : Nat → Nat} {I : pm_II} {J : pm_JJ} {Q : Option Value → pm_H → Prop} {x2 : Int32} {x3 : Int32} {x4 : Int32} {x5 : Int32} {x6 : Int32} {x7 : Int32} {x8 : Int32} {x9 : Int32} {x10 : Int32} {a11 : Nat} (h : Px (k + 1) 176 m_Ty_layLine 154 [.ref 48, .ref 17, .int x2, .int x3, .int x4, .int x5, .int x6, .int x7, .int x8, .int x9, .int x10, .ref a11, .int x5] [] (hp I J (pm_RT pa pb ga)) Q) : Px (k + 1) 176 m_Ty_layLine 150 [.ref 48, .ref 17, .int x2, .int x3, .int x4, .int x5, .int x6, .int x7, .int x8, .int x9, .int x10, .ref a11, .null] [] (hp I J (pm_RT pa pb ga)) Q := by
  refine x_l 152 rfl rfl rfl ?_
  refine x_t 154 rfl rfl rfl ?_
  exact h

theorem bk_Ty_layLine_154 {k : Nat} {pa pb : Nat} {ga : Nat → Nat} {I : pm_II} {J : pm_JJ} {Q : Option Value → pm_H → Prop} {x2 : Int32} {x3 : Int32} {x4 : Int32} {x5 : Int32} {x6 : Int32} {x7 : Int32} {x8 : Int32} {x9 : Int32} {x10 : Int32} {a11 : Nat} {x12 : Int32} (h : ((x6 ≤ x12 → Q none (hp (pm_up I 48 9 ((I 48 9) + (1 : Int32))) J (pm_RT pa pb ga))) ∧ (¬ (x6 ≤ x12) → ((x12 ≤ x5 → Px (k + 1) 176 m_Ty_layLine 193 [.ref 48, .ref 17, .int x2, .int x3, .int x4, .int x5, .int x6, .int x7, .int x8, .int x9, .int x10, .ref a11, .int x12] [] (hp I J (pm_RT pa pb ga)) Q) ∧ (¬ (x12 ≤ x5) → ((x10 < (x12 - x5) → Px (k + 1) 176 m_Ty_layLine 189 [.ref 48, .ref 17, .int x2, .int x3, .int x4, .int x5, .int x6, .int x7, .int x8, .int x9, .int x10, .ref a11, .int x12] [.int 0, .int ((3 : Int32) + x9), .ref a11] (hp I J (pm_RT pa pb ga)) Q) ∧ (¬ (x10 < (x12 - x5)) → Px (k + 1) 176 m_Ty_layLine 189 [.ref 48, .ref 17, .int x2, .int x3, .int x4, .int x5, .int x6, .int x7, .int x8, .int x9, .int x10, .ref a11, .int x12] [.int 1, .int ((3 : Int32) + x9), .ref a11] (hp I J (pm_RT pa pb ga)) Q))))))) : Px (k + 1) 176 m_Ty_layLine 154 [.ref 48, .ref 17, .int x2, .int x3, .int x4, .int x5, .int x6, .int x7, .int x8, .int x9, .int x10, .ref a11, .int x12] [] (hp I J (pm_RT pa pb ga)) Q := by
  refine x_l 156 rfl rfl rfl ?_
  refine x_l 158 rfl rfl rfl ?_
  refine x_b 161 rfl rfl rfl (fun c => ?_) (fun c => ?_)
  · have h := h.1 c
    refine x_l 209 rfl rfl rfl ?_
    refine x_s 210 rfl rfl rfl ?_
    refine z_gf 213 (.int (I 48 9)) rfl ⟨rfl, rfl, rfl⟩ rfl rfl ?_
    refine z_k 214 1 rfl (by decide) rfl ?_
    refine x_s 215 rfl rfl rfl ?_
    refine z_pi 218 rfl (Or.inl rfl) rfl (fun z => by cases z) ⟨rfl, rfl, rfl⟩ rfl ?_
    exact x_rv rfl rfl h
  · have h := h.2 c
    refine x_l 163 rfl rfl rfl ?_
    refine x_l 165 rfl rfl rfl ?_
    refine x_b 168 rfl rfl rfl (fun c => ?_) (fun c => ?_)
    · have h := h.1 c
      exact h
    · have h := h.2 c
      refine x_l 170 rfl rfl rfl ?_
      refine z_k 171 3 rfl (by decide) rfl ?_
      refine x_l 173 rfl rfl rfl ?_
      refine x_s 174 rfl rfl rfl ?_
      refine x_l 176 rfl rfl rfl ?_
      refine x_l 178 rfl rfl rfl ?_
      refine x_s 179 rfl rfl rfl ?_
      refine x_l 181 rfl rfl rfl ?_
      refine x_b 184 rfl rfl rfl (fun c => ?_) (fun c => ?_)
      · have h := h.1 c
        refine z_k 189 0 rfl (by decide) rfl ?_
        exact h
      · have h := h.2 c
        refine z_k 185 1 rfl (by decide) rfl ?_
        refine x_g rfl ?_
        exact h

theorem bk_Ty_layLine_189 {k : Nat} {pa pb : Nat} {ga : Nat → Nat} {I : pm_II} {J : pm_JJ} {Q : Option Value → pm_H → Prop} {x2 : Int32} {x3 : Int32} {x4 : Int32} {x5 : Int32} {x6 : Int32} {x7 : Int32} {x8 : Int32} {x9 : Int32} {x10 : Int32} {a11 : Nat} {x12 : Int32} {b0 : Nat} {s1 : Int32} {s2 : Int32} (h : pm_ob b0 8 ∧ Px k 176 m_Tl_addSpace 0 [.ref b0, .int (s1 + s2)] [] (hp I J (pm_RT pa pb ga)) (fun r h' => h'.1 = 176 ∧ Px (k + 1) 176 m_Ty_layLine 193 [.ref 48, .ref 17, .int x2, .int x3, .int x4, .int x5, .int x6, .int x7, .int x8, .int x9, .int x10, .ref a11, .int x12] (r.toList ++ []) h' Q)) : Px (k + 1) 176 m_Ty_layLine 189 [.ref 48, .ref 17, .int x2, .int x3, .int x4, .int x5, .int x6, .int x7, .int x8, .int x9, .int x10, .ref a11, .int x12] [.int s2, .int s1, .ref b0] (hp I J (pm_RT pa pb ga)) Q := by
  refine x_s 190 rfl rfl rfl ?_
  have h0 := h.1
  have h := h.2
  exact z_cv (As := [.int (s1 + s2)]) (rest := []) (b := b0) rfl at_Tl_addSpace rfl rfl (Nat.le_of_ble_eq_true rfl) (Nat.le_of_ble_eq_true rfl) h0 (by decide) rfl h

theorem bk_Ty_layLine_193 {k : Nat} {pa pb : Nat} {ga : Nat → Nat} {I : pm_II} {J : pm_JJ} {Q : Option Value → pm_H → Prop} {x2 : Int32} {x3 : Int32} {x4 : Int32} {x5 : Int32} {x6 : Int32} {x7 : Int32} {x8 : Int32} {x9 : Int32} {x10 : Int32} {a11 : Nat} {x12 : Int32} (h : Px k 176 m_Ty_layWord 0 [.ref 48, .ref 17, .int x12, .ref a11, .null] [] (hp I J (pm_RT pa pb ga)) (fun r h' => h'.1 = 176 ∧ Px (k + 1) 176 m_Ty_layLine 202 [.ref 48, .ref 17, .int x2, .int x3, .int x4, .int x5, .int x6, .int x7, .int x8, .int x9, .int x10, .ref a11, .int x12] (r.toList ++ []) h' Q)) : Px (k + 1) 176 m_Ty_layLine 193 [.ref 48, .ref 17, .int x2, .int x3, .int x4, .int x5, .int x6, .int x7, .int x8, .int x9, .int x10, .ref a11, .int x12] [] (hp I J (pm_RT pa pb ga)) Q := by
  refine x_l 194 rfl rfl rfl ?_
  refine x_l 195 rfl rfl rfl ?_
  refine x_l 197 rfl rfl rfl ?_
  refine x_l 199 rfl rfl rfl ?_
  exact z_cv (As := [.ref 17, .int x12, .ref a11]) (rest := []) (b := 48) rfl at_Ty_layWord rfl rfl (Nat.le_of_ble_eq_true rfl) (Nat.le_of_ble_eq_true rfl) ⟨rfl, rfl, rfl⟩ (by decide) rfl h

theorem bk_Ty_layLine_202 {k : Nat} {pa pb : Nat} {ga : Nat → Nat} {I : pm_II} {J : pm_JJ} {Q : Option Value → pm_H → Prop} {x2 : Int32} {x3 : Int32} {x4 : Int32} {x5 : Int32} {x6 : Int32} {x7 : Int32} {x8 : Int32} {x9 : Int32} {x10 : Int32} {a11 : Nat} {x12 : Int32} (h : Px (k + 1) 176 m_Ty_layLine 154 [.ref 48, .ref 17, .int x2, .int x3, .int x4, .int x5, .int x6, .int x7, .int x8, .int x9, .int x10, .ref a11, .int (x12 + Int32.ofInt 1)] [] (hp I J (pm_RT pa pb ga)) Q) : Px (k + 1) 176 m_Ty_layLine 202 [.ref 48, .ref 17, .int x2, .int x3, .int x4, .int x5, .int x6, .int x7, .int x8, .int x9, .int x10, .ref a11, .int x12] [] (hp I J (pm_RT pa pb ga)) Q := by
  refine x_t 205 rfl rfl rfl ?_
  refine x_g rfl ?_
  exact h

theorem bk_Tl_start_0 {k : Nat} {pa pb : Nat} {ga : Nat → Nat} {I : pm_II} {J : pm_JJ} {Q : Option Value → pm_H → Prop} {a0 : Nat} (h : pm_ob a0 8 ∧ pm_ob a0 8 ∧ pm_ob a0 8 ∧ pm_ob a0 8 ∧ pm_ob a0 8 ∧ pm_ob a0 8 ∧ Q none (hp (pm_up (pm_up (pm_up (pm_up (pm_up (pm_up I a0 1 0) a0 2 0) a0 3 0) a0 4 0) a0 5 0) a0 6 0) J (pm_RT pa pb ga))) : Px k 176 m_Tl_start 0 [.ref a0] [] (hp I J (pm_RT pa pb ga)) Q := by
  refine x_l 1 rfl rfl rfl ?_
  refine z_k 2 0 rfl (by decide) rfl ?_
  have h0 := h.1
  have h := h.2
  refine z_pi 5 rfl (Or.inl rfl) rfl (fun z => by cases z) h0 rfl ?_
  refine x_l 6 rfl rfl rfl ?_
  refine z_k 7 0 rfl (by decide) rfl ?_
  have h0 := h.1
  have h := h.2
  refine z_pi 10 rfl (Or.inl rfl) rfl (fun z => by cases z) h0 rfl ?_
  refine x_l 11 rfl rfl rfl ?_
  refine z_k 12 0 rfl (by decide) rfl ?_
  have h0 := h.1
  have h := h.2
  refine z_pi 15 rfl (Or.inl rfl) rfl (fun z => by cases z) h0 rfl ?_
  refine x_l 16 rfl rfl rfl ?_
  refine z_k 17 0 rfl (by decide) rfl ?_
  have h0 := h.1
  have h := h.2
  refine z_pi 20 rfl (Or.inl rfl) rfl (fun z => by cases z) h0 rfl ?_
  refine x_l 21 rfl rfl rfl ?_
  refine z_k 22 0 rfl (by decide) rfl ?_
  have h0 := h.1
  have h := h.2
  refine z_pi 25 rfl (Or.inl rfl) rfl (fun z => by cases z) h0 rfl ?_
  refine x_l 26 rfl rfl rfl ?_
  refine z_k 27 0 rfl (by decide) rfl ?_
  have h0 := h.1
  have h := h.2
  refine z_pi 30 rfl (Or.inl rfl) rfl (fun z => by cases z) h0 rfl ?_
  exact x_rv rfl rfl h

theorem bk_Tl_addSpace_0 {k : Nat} {pa pb : Nat} {ga : Nat → Nat} {I : pm_II} {J : pm_JJ} {Q : Option Value → pm_H → Prop} {a0 : Nat} {x1 : Int32} (h : pm_ob a0 8 ∧ ((155 ≤ (I a0 1) → Q none (hp I J (pm_RT pa pb ga))) ∧ (¬ (155 ≤ (I a0 1)) → pm_ob a0 8 ∧ (pm_RT pa pb ga) a0 0 = .ref (a0 + 1) ∧ pm_ob a0 8 ∧ pm_ob (a0 + 1) 100 ∧ vp_in (I a0 1) (pm_sh (a0 + 1)).2 ∧ pm_ob a0 8 ∧ pm_ob a0 8 ∧ pm_ob a0 8 ∧ pm_ob a0 8 ∧ pm_ob a0 8 ∧ ((¬ ((pm_up (pm_up (pm_up I (a0 + 1) (((I a0 1) : Int32).toNatClampNeg) (-x1)) a0 1 (((pm_up I (a0 + 1) (((I a0 1) : Int32).toNatClampNeg) (-x1)) a0 1) + (1 : Int32))) a0 2 (((pm_up (pm_up I (a0 + 1) (((I a0 1) : Int32).toNatClampNeg) (-x1)) a0 1 (((pm_up I (a0 + 1) (((I a0 1) : Int32).toNatClampNeg) (-x1)) a0 1) + (1 : Int32))) a0 2) + x1)) a0 5) = 0 → pm_ob a0 8 ∧ pm_ob a0 8 ∧ pm_ob a0 8 ∧ Q none (hp (pm_up (pm_up (pm_up (pm_up (pm_up I (a0 + 1) (((I a0 1) : Int32).toNatClampNeg) (-x1)) a0 1 (((pm_up I (a0 + 1) (((I a0 1) : Int32).toNatClampNeg) (-x1)) a0 1) + (1 : Int32))) a0 2 (((pm_up (pm_up I (a0 + 1) (((I a0 1) : Int32).toNatClampNeg) (-x1)) a0 1 (((pm_up I (a0 + 1) (((I a0 1) : Int32).toNatClampNeg) (-x1)) a0 1) + (1 : Int32))) a0 2) + x1)) a0 5 ((pm_up (pm_up (pm_up I (a0 + 1) (((I a0 1) : Int32).toNatClampNeg) (-x1)) a0 1 (((pm_up I (a0 + 1) (((I a0 1) : Int32).toNatClampNeg) (-x1)) a0 1) + (1 : Int32))) a0 2 (((pm_up (pm_up I (a0 + 1) (((I a0 1) : Int32).toNatClampNeg) (-x1)) a0 1 (((pm_up I (a0 + 1) (((I a0 1) : Int32).toNatClampNeg) (-x1)) a0 1) + (1 : Int32))) a0 2) + x1)) a0 5)) a0 6 x1) J (pm_RT pa pb ga))) ∧ (¬ (¬ ((pm_up (pm_up (pm_up I (a0 + 1) (((I a0 1) : Int32).toNatClampNeg) (-x1)) a0 1 (((pm_up I (a0 + 1) (((I a0 1) : Int32).toNatClampNeg) (-x1)) a0 1) + (1 : Int32))) a0 2 (((pm_up (pm_up I (a0 + 1) (((I a0 1) : Int32).toNatClampNeg) (-x1)) a0 1 (((pm_up I (a0 + 1) (((I a0 1) : Int32).toNatClampNeg) (-x1)) a0 1) + (1 : Int32))) a0 2) + x1)) a0 5) = 0) → pm_ob a0 8 ∧ pm_ob a0 8 ∧ Q none (hp (pm_up (pm_up (pm_up (pm_up (pm_up I (a0 + 1) (((I a0 1) : Int32).toNatClampNeg) (-x1)) a0 1 (((pm_up I (a0 + 1) (((I a0 1) : Int32).toNatClampNeg) (-x1)) a0 1) + (1 : Int32))) a0 2 (((pm_up (pm_up I (a0 + 1) (((I a0 1) : Int32).toNatClampNeg) (-x1)) a0 1 (((pm_up I (a0 + 1) (((I a0 1) : Int32).toNatClampNeg) (-x1)) a0 1) + (1 : Int32))) a0 2) + x1)) a0 5 x1) a0 6 x1) J (pm_RT pa pb ga))))))) : Px k 176 m_Tl_addSpace 0 [.ref a0, .int x1] [] (hp I J (pm_RT pa pb ga)) Q := by
  refine x_l 1 rfl rfl rfl ?_
  have h0 := h.1
  have h := h.2
  refine z_gf 4 (.int (I a0 1)) rfl h0 rfl rfl ?_
  refine z_k 7 155 rfl (by decide) rfl ?_
  refine x_b 10 rfl rfl rfl (fun c => ?_) (fun c => ?_)
  · have h := h.1 c
    exact x_rv rfl rfl h
  · have h := h.2 c
    refine x_l 11 rfl rfl rfl ?_
    have h0 := h.1
    have h := h.2
    have h1 := h.1
    have h := h.2
    refine z_gf 14 (.ref (a0 + 1)) rfl h0 rfl h1 ?_
    refine x_l 15 rfl rfl rfl ?_
    have h0 := h.1
    have h := h.2
    refine z_gf 18 (.int (I a0 1)) rfl h0 rfl rfl ?_
    refine x_l 19 rfl rfl rfl ?_
    refine x_s 20 rfl rfl rfl ?_
    have h0 := h.1
    have h := h.2
    have h1 := h.1
    have h := h.2
    refine z_is 21 (pm_sh (a0 + 1)).2 rfl h0 rfl h1 rfl ?_
    refine x_l 22 rfl rfl rfl ?_
    refine x_s 23 rfl rfl rfl ?_
    have h0 := h.1
    have h := h.2
    refine z_gf 26 (.int ((pm_up I (a0 + 1) (((I a0 1) : Int32).toNatClampNeg) (-x1)) a0 1)) rfl h0 rfl rfl ?_
    refine z_k 27 1 rfl (by decide) rfl ?_
    refine x_s 28 rfl rfl rfl ?_
    have h0 := h.1
    have h := h.2
    refine z_pi 31 rfl (Or.inl rfl) rfl (fun z => by cases z) h0 rfl ?_
    refine x_l 32 rfl rfl rfl ?_
    refine x_s 33 rfl rfl rfl ?_
    have h0 := h.1
    have h := h.2
    refine z_gf 36 (.int ((pm_up (pm_up I (a0 + 1) (((I a0 1) : Int32).toNatClampNeg) (-x1)) a0 1 (((pm_up I (a0 + 1) (((I a0 1) : Int32).toNatClampNeg) (-x1)) a0 1) + (1 : Int32))) a0 2)) rfl h0 rfl rfl ?_
    refine x_l 37 rfl rfl rfl ?_
    refine x_s 38 rfl rfl rfl ?_
    have h0 := h.1
    have h := h.2
    refine z_pi 41 rfl (Or.inl rfl) rfl (fun z => by cases z) h0 rfl ?_
    refine x_l 42 rfl rfl rfl ?_
    refine x_l 43 rfl rfl rfl ?_
    have h0 := h.1
    have h := h.2
    refine z_gf 46 (.int ((pm_up (pm_up (pm_up I (a0 + 1) (((I a0 1) : Int32).toNatClampNeg) (-x1)) a0 1 (((pm_up I (a0 + 1) (((I a0 1) : Int32).toNatClampNeg) (-x1)) a0 1) + (1 : Int32))) a0 2 (((pm_up (pm_up I (a0 + 1) (((I a0 1) : Int32).toNatClampNeg) (-x1)) a0 1 (((pm_up I (a0 + 1) (((I a0 1) : Int32).toNatClampNeg) (-x1)) a0 1) + (1 : Int32))) a0 2) + x1)) a0 5)) rfl h0 rfl rfl ?_
    refine x_b 49 rfl rfl rfl (fun c => ?_) (fun c => ?_)
    · have h := h.1 c
      refine x_l 54 rfl rfl rfl ?_
      have h0 := h.1
      have h := h.2
      refine z_gf 57 (.int ((pm_up (pm_up (pm_up I (a0 + 1) (((I a0 1) : Int32).toNatClampNeg) (-x1)) a0 1 (((pm_up I (a0 + 1) (((I a0 1) : Int32).toNatClampNeg) (-x1)) a0 1) + (1 : Int32))) a0 2 (((pm_up (pm_up I (a0 + 1) (((I a0 1) : Int32).toNatClampNeg) (-x1)) a0 1 (((pm_up I (a0 + 1) (((I a0 1) : Int32).toNatClampNeg) (-x1)) a0 1) + (1 : Int32))) a0 2) + x1)) a0 5)) rfl h0 rfl rfl ?_
      have h0 := h.1
      have h := h.2
      refine z_pi 60 rfl (Or.inl rfl) rfl (fun z => by cases z) h0 rfl ?_
      refine x_l 61 rfl rfl rfl ?_
      refine x_l 62 rfl rfl rfl ?_
      have h0 := h.1
      have h := h.2
      refine z_pi 65 rfl (Or.inl rfl) rfl (fun z => by cases z) h0 rfl ?_
      exact x_rv rfl rfl h
    · have h := h.2 c
      refine x_l 50 rfl rfl rfl ?_
      refine x_g rfl ?_
      have h0 := h.1
      have h := h.2
      refine z_pi 60 rfl (Or.inl rfl) rfl (fun z => by cases z) h0 rfl ?_
      refine x_l 61 rfl rfl rfl ?_
      refine x_l 62 rfl rfl rfl ?_
      have h0 := h.1
      have h := h.2
      refine z_pi 65 rfl (Or.inl rfl) rfl (fun z => by cases z) h0 rfl ?_
      exact x_rv rfl rfl h

theorem bk_Ty_layWord_0 {k : Nat} {pa pb : Nat} {ga : Nat → Nat} {I : pm_II} {J : pm_JJ} {Q : Option Value → pm_H → Prop} {x2 : Int32} {a3 : Nat} (h : vp_in x2 12 ∧ pm_ob a3 8 ∧ Px k 176 m_Tl_addWord 0 [.ref a3, .int (I 54 ((x2 : Int32).toNatClampNeg))] [] (hp I J (pm_RT pa pb ga)) (fun r h' => h'.1 = 176 ∧ Px (k + 1) 176 m_Ty_layWord 10 [.ref 48, .ref 17, .int x2, .ref a3, .null] (r.toList ++ []) h' Q)) : Px (k + 1) 176 m_Ty_layWord 0 [.ref 48, .ref 17, .int x2, .ref a3, .null] [] (hp I J (pm_RT pa pb ga)) Q := by
  refine x_l 1 rfl rfl rfl ?_
  refine x_l 2 rfl rfl rfl ?_
  refine z_gf 5 (.ref 54) rfl ⟨rfl, rfl, rfl⟩ rfl rfl ?_
  refine x_l 6 rfl rfl rfl ?_
  have h1 := h.1
  have h := h.2
  refine z_il 7 12 rfl ⟨rfl, rfl, rfl⟩ rfl h1 rfl ?_
  have h0 := h.1
  have h := h.2
  exact z_cv (As := [.int (I 54 ((x2 : Int32).toNatClampNeg))]) (rest := []) (b := a3) rfl at_Tl_addWord rfl rfl (Nat.le_of_ble_eq_true rfl) (Nat.le_of_ble_eq_true rfl) h0 (by decide) rfl h

theorem bk_Ty_layWord_10 {k : Nat} {pa pb : Nat} {ga : Nat → Nat} {I : pm_II} {J : pm_JJ} {Q : Option Value → pm_H → Prop} {x2 : Int32} {a3 : Nat} (h : Px (k + 1) 176 m_Ty_layWord 13 [.ref 48, .ref 17, .int x2, .ref a3, .int 0] [] (hp I J (pm_RT pa pb ga)) Q) : Px (k + 1) 176 m_Ty_layWord 10 [.ref 48, .ref 17, .int x2, .ref a3, .null] [] (hp I J (pm_RT pa pb ga)) Q := by
  refine z_k 11 0 rfl (by decide) rfl ?_
  refine x_t 13 rfl rfl rfl ?_
  exact h

theorem bk_Ty_layWord_13 {k : Nat} {pa pb : Nat} {ga : Nat → Nat} {I : pm_II} {J : pm_JJ} {Q : Option Value → pm_H → Prop} {x2 : Int32} {a3 : Nat} {x4 : Int32} (h : vp_in x2 12 ∧ (((I 53 ((x2 : Int32).toNatClampNeg)) ≤ x4 → Q none (hp I J (pm_RT pa pb ga))) ∧ (¬ ((I 53 ((x2 : Int32).toNatClampNeg)) ≤ x4) → vp_in x2 12 ∧ Px k 176 m_Ta_byteAt 0 [.ref 17, .int ((I 52 ((x2 : Int32).toNatClampNeg)) + x4)] [] (hp I J (pm_RT pa pb ga)) (fun r h' => h'.1 = 176 ∧ Px (k + 1) 176 m_Ty_layWord 38 [.ref 48, .ref 17, .int x2, .ref a3, .int x4] (r.toList ++ [.ref a3]) h' Q)))) : Px (k + 1) 176 m_Ty_layWord 13 [.ref 48, .ref 17, .int x2, .ref a3, .int x4] [] (hp I J (pm_RT pa pb ga)) Q := by
  refine x_l 15 rfl rfl rfl ?_
  refine x_l 16 rfl rfl rfl ?_
  refine z_gf 19 (.ref 53) rfl ⟨rfl, rfl, rfl⟩ rfl rfl ?_
  refine x_l 20 rfl rfl rfl ?_
  have h1 := h.1
  have h := h.2
  refine z_il 21 12 rfl ⟨rfl, rfl, rfl⟩ rfl h1 rfl ?_
  refine x_b 24 rfl rfl rfl (fun c => ?_) (fun c => ?_)
  · have h := h.1 c
    exact x_rv rfl rfl h
  · have h := h.2 c
    refine x_l 25 rfl rfl rfl ?_
    refine x_l 26 rfl rfl rfl ?_
    refine x_l 27 rfl rfl rfl ?_
    refine z_gf 30 (.ref 52) rfl ⟨rfl, rfl, rfl⟩ rfl rfl ?_
    refine x_l 31 rfl rfl rfl ?_
    have h1 := h.1
    have h := h.2
    refine z_il 32 12 rfl ⟨rfl, rfl, rfl⟩ rfl h1 rfl ?_
    refine x_l 34 rfl rfl rfl ?_
    refine x_s 35 rfl rfl rfl ?_
    exact z_cv (As := [.int ((I 52 ((x2 : Int32).toNatClampNeg)) + x4)]) (rest := [.ref a3]) (b := 17) rfl at_Ta_byteAt rfl rfl (Nat.le_of_ble_eq_true rfl) (Nat.le_of_ble_eq_true rfl) ⟨rfl, rfl, rfl⟩ (by decide) rfl h

theorem bk_Ty_layWord_38 {k : Nat} {pa pb : Nat} {ga : Nat → Nat} {I : pm_II} {J : pm_JJ} {Q : Option Value → pm_H → Prop} {x2 : Int32} {a3 : Nat} {x4 : Int32} {b0 : Nat} {s1 : Int32} (h : pm_ob b0 8 ∧ Px k 176 m_Tl_addLetter 0 [.ref b0, .int ((s1 - (97 : Int32)) + (1 : Int32))] [] (hp I J (pm_RT pa pb ga)) (fun r h' => h'.1 = 176 ∧ Px (k + 1) 176 m_Ty_layWord 46 [.ref 48, .ref 17, .int x2, .ref a3, .int x4] (r.toList ++ []) h' Q)) : Px (k + 1) 176 m_Ty_layWord 38 [.ref 48, .ref 17, .int x2, .ref a3, .int x4] [.int s1, .ref b0] (hp I J (pm_RT pa pb ga)) Q := by
  refine z_k 40 97 rfl (by decide) rfl ?_
  refine x_s 41 rfl rfl rfl ?_
  refine z_k 42 1 rfl (by decide) rfl ?_
  refine x_s 43 rfl rfl rfl ?_
  have h0 := h.1
  have h := h.2
  exact z_cv (As := [.int ((s1 - (97 : Int32)) + (1 : Int32))]) (rest := []) (b := b0) rfl at_Tl_addLetter rfl rfl (Nat.le_of_ble_eq_true rfl) (Nat.le_of_ble_eq_true rfl) h0 (by decide) rfl h

theorem bk_Ty_layWord_46 {k : Nat} {pa pb : Nat} {ga : Nat → Nat} {I : pm_II} {J : pm_JJ} {Q : Option Value → pm_H → Prop} {x2 : Int32} {a3 : Nat} {x4 : Int32} (h : Px (k + 1) 176 m_Ty_layWord 13 [.ref 48, .ref 17, .int x2, .ref a3, .int (x4 + Int32.ofInt 1)] [] (hp I J (pm_RT pa pb ga)) Q) : Px (k + 1) 176 m_Ty_layWord 46 [.ref 48, .ref 17, .int x2, .ref a3, .int x4] [] (hp I J (pm_RT pa pb ga)) Q := by
  refine x_t 49 rfl rfl rfl ?_
  refine x_g rfl ?_
  exact h

theorem bk_Tl_addWord_0 {k : Nat} {pa pb : Nat} {ga : Nat → Nat} {I : pm_II} {J : pm_JJ} {Q : Option Value → pm_H → Prop} {a0 : Nat} {x1 : Int32} (h : pm_ob a0 8 ∧ pm_ob a0 8 ∧ pm_ob a0 8 ∧ pm_ob a0 8 ∧ Q none (hp (pm_up (pm_up I a0 3 ((I a0 3) + (1 : Int32))) a0 2 (((pm_up I a0 3 ((I a0 3) + (1 : Int32))) a0 2) + x1)) J (pm_RT pa pb ga))) : Px k 176 m_Tl_addWord 0 [.ref a0, .int x1] [] (hp I J (pm_RT pa pb ga)) Q := by
  refine x_l 1 rfl rfl rfl ?_
  refine x_s 2 rfl rfl rfl ?_
  have h0 := h.1
  have h := h.2
  refine z_gf 5 (.int (I a0 3)) rfl h0 rfl rfl ?_
  refine z_k 6 1 rfl (by decide) rfl ?_
  refine x_s 7 rfl rfl rfl ?_
  have h0 := h.1
  have h := h.2
  refine z_pi 10 rfl (Or.inl rfl) rfl (fun z => by cases z) h0 rfl ?_
  refine x_l 11 rfl rfl rfl ?_
  refine x_s 12 rfl rfl rfl ?_
  have h0 := h.1
  have h := h.2
  refine z_gf 15 (.int ((pm_up I a0 3 ((I a0 3) + (1 : Int32))) a0 2)) rfl h0 rfl rfl ?_
  refine x_l 16 rfl rfl rfl ?_
  refine x_s 17 rfl rfl rfl ?_
  have h0 := h.1
  have h := h.2
  refine z_pi 20 rfl (Or.inl rfl) rfl (fun z => by cases z) h0 rfl ?_
  exact x_rv rfl rfl h

theorem bk_Tl_addLetter_0 {k : Nat} {pa pb : Nat} {ga : Nat → Nat} {I : pm_II} {J : pm_JJ} {Q : Option Value → pm_H → Prop} {a0 : Nat} {x1 : Int32} (h : pm_ob a0 8 ∧ ((155 ≤ (I a0 1) → Q none (hp I J (pm_RT pa pb ga))) ∧ (¬ (155 ≤ (I a0 1)) → pm_ob a0 8 ∧ (pm_RT pa pb ga) a0 0 = .ref (a0 + 1) ∧ pm_ob a0 8 ∧ pm_ob (a0 + 1) 100 ∧ vp_in (I a0 1) (pm_sh (a0 + 1)).2 ∧ pm_ob a0 8 ∧ pm_ob a0 8 ∧ pm_ob a0 8 ∧ pm_ob a0 8 ∧ Q none (hp (pm_up (pm_up (pm_up I (a0 + 1) (((I a0 1) : Int32).toNatClampNeg) x1) a0 1 (((pm_up I (a0 + 1) (((I a0 1) : Int32).toNatClampNeg) x1) a0 1) + (1 : Int32))) a0 4 (((pm_up (pm_up I (a0 + 1) (((I a0 1) : Int32).toNatClampNeg) x1) a0 1 (((pm_up I (a0 + 1) (((I a0 1) : Int32).toNatClampNeg) x1) a0 1) + (1 : Int32))) a0 4) + (1 : Int32))) J (pm_RT pa pb ga))))) : Px k 176 m_Tl_addLetter 0 [.ref a0, .int x1] [] (hp I J (pm_RT pa pb ga)) Q := by
  refine x_l 1 rfl rfl rfl ?_
  have h0 := h.1
  have h := h.2
  refine z_gf 4 (.int (I a0 1)) rfl h0 rfl rfl ?_
  refine z_k 7 155 rfl (by decide) rfl ?_
  refine x_b 10 rfl rfl rfl (fun c => ?_) (fun c => ?_)
  · have h := h.1 c
    exact x_rv rfl rfl h
  · have h := h.2 c
    refine x_l 11 rfl rfl rfl ?_
    have h0 := h.1
    have h := h.2
    have h1 := h.1
    have h := h.2
    refine z_gf 14 (.ref (a0 + 1)) rfl h0 rfl h1 ?_
    refine x_l 15 rfl rfl rfl ?_
    have h0 := h.1
    have h := h.2
    refine z_gf 18 (.int (I a0 1)) rfl h0 rfl rfl ?_
    refine x_l 19 rfl rfl rfl ?_
    have h0 := h.1
    have h := h.2
    have h1 := h.1
    have h := h.2
    refine z_is 20 (pm_sh (a0 + 1)).2 rfl h0 rfl h1 rfl ?_
    refine x_l 21 rfl rfl rfl ?_
    refine x_s 22 rfl rfl rfl ?_
    have h0 := h.1
    have h := h.2
    refine z_gf 25 (.int ((pm_up I (a0 + 1) (((I a0 1) : Int32).toNatClampNeg) x1) a0 1)) rfl h0 rfl rfl ?_
    refine z_k 26 1 rfl (by decide) rfl ?_
    refine x_s 27 rfl rfl rfl ?_
    have h0 := h.1
    have h := h.2
    refine z_pi 30 rfl (Or.inl rfl) rfl (fun z => by cases z) h0 rfl ?_
    refine x_l 31 rfl rfl rfl ?_
    refine x_s 32 rfl rfl rfl ?_
    have h0 := h.1
    have h := h.2
    refine z_gf 35 (.int ((pm_up (pm_up I (a0 + 1) (((I a0 1) : Int32).toNatClampNeg) x1) a0 1 (((pm_up I (a0 + 1) (((I a0 1) : Int32).toNatClampNeg) x1) a0 1) + (1 : Int32))) a0 4)) rfl h0 rfl rfl ?_
    refine z_k 36 1 rfl (by decide) rfl ?_
    refine x_s 37 rfl rfl rfl ?_
    have h0 := h.1
    have h := h.2
    refine z_pi 40 rfl (Or.inl rfl) rfl (fun z => by cases z) h0 rfl ?_
    exact x_rv rfl rfl h

theorem bk_Ty_putBack_0 {k : Nat} {pa pb : Nat} {ga : Nat → Nat} {I : pm_II} {J : pm_JJ} {Q : Option Value → pm_H → Prop} {x1 : Int32} (h : Px k 176 m_Ty_stands 0 [.ref 48, .int x1] [] (hp I J (pm_RT pa pb ga)) (fun r h' => h'.1 = 176 ∧ Px (k + 1) 176 m_Ty_putBack 5 [.ref 48, .int x1, .null, .null, .null] (r.toList ++ []) h' Q)) : Px (k + 1) 176 m_Ty_putBack 0 [.ref 48, .int x1, .null, .null, .null] [] (hp I J (pm_RT pa pb ga)) Q := by
  refine x_l 1 rfl rfl rfl ?_
  refine x_l 2 rfl rfl rfl ?_
  exact z_cv (As := [.int x1]) (rest := []) (b := 48) rfl at_Ty_stands rfl rfl (Nat.le_of_ble_eq_true rfl) (Nat.le_of_ble_eq_true rfl) ⟨rfl, rfl, rfl⟩ (by decide) rfl h

theorem bk_Ty_putBack_5 {k : Nat} {pa pb : Nat} {ga : Nat → Nat} {I : pm_II} {J : pm_JJ} {Q : Option Value → pm_H → Prop} {x1 : Int32} {s0 : Int32} (h : ((¬ s0 = 0 → vp_in x1 16 ∧ Px (k + 1) 176 m_Ty_putBack 19 [.ref 48, .int x1, .ref (ga ((x1 : Int32).toNatClampNeg)), .int 0, .null] [] (hp I J (pm_RT pa pb ga)) Q) ∧ (¬ (¬ s0 = 0) → Q (some (.int (-1))) (hp I J (pm_RT pa pb ga))))) : Px (k + 1) 176 m_Ty_putBack 5 [.ref 48, .int x1, .null, .null, .null] [.int s0] (hp I J (pm_RT pa pb ga)) Q := by
  refine x_b 8 rfl rfl rfl (fun c => ?_) (fun c => ?_)
  · have h := h.1 c
    refine x_l 11 rfl rfl rfl ?_
    refine z_gf 14 (.ref 56) rfl ⟨rfl, rfl, rfl⟩ rfl rfl ?_
    refine x_l 15 rfl rfl rfl ?_
    have h1 := h.1
    have h := h.2
    refine z_rl 16 16 (.ref (ga ((x1 : Int32).toNatClampNeg))) rfl ⟨rfl, rfl, rfl⟩ rfl h1 rfl rfl ?_
    refine x_t 17 rfl rfl rfl ?_
    refine z_k 18 0 rfl (by decide) rfl ?_
    refine x_t 19 rfl rfl rfl ?_
    exact h
  · have h := h.2 c
    refine z_k 9 (-1) rfl (by decide) rfl ?_
    exact x_ri rfl (Or.inl rfl) h

theorem bk_Ty_putBack_19 {k : Nat} {pa pb : Nat} {ga : Nat → Nat} {I : pm_II} {J : pm_JJ} {Q : Option Value → pm_H → Prop} {x1 : Int32} {a2 : Nat} {x3 : Int32} (h : pm_ob a2 8 ∧ Px k 176 m_Tl_length 0 [.ref a2] [] (hp I J (pm_RT pa pb ga)) (fun r h' => h'.1 = 176 ∧ Px (k + 1) 176 m_Ty_putBack 24 [.ref 48, .int x1, .ref a2, .int x3, .null] (r.toList ++ [.int x3]) h' Q)) : Px (k + 1) 176 m_Ty_putBack 19 [.ref 48, .int x1, .ref a2, .int x3, .null] [] (hp I J (pm_RT pa pb ga)) Q := by
  refine x_l 20 rfl rfl rfl ?_
  refine x_l 21 rfl rfl rfl ?_
  have h0 := h.1
  have h := h.2
  exact z_cv (As := []) (rest := [.int x3]) (b := a2) rfl at_Tl_length rfl rfl (Nat.le_of_ble_eq_true rfl) (Nat.le_of_ble_eq_true rfl) h0 (by decide) rfl h

theorem bk_Ty_putBack_24 {k : Nat} {pa pb : Nat} {ga : Nat → Nat} {I : pm_II} {J : pm_JJ} {Q : Option Value → pm_H → Prop} {x1 : Int32} {a2 : Nat} {x3 : Int32} {s0 : Int32} {s1 : Int32} (h : ((s1 ≤ s0 → Px (k + 1) 176 m_Ty_putBack 68 [.ref 48, .int x1, .ref a2, .int x1, .null] [] (hp I J (pm_RT pa pb ga)) Q) ∧ (¬ (s1 ≤ s0) → pm_ob a2 8 ∧ Px k 176 m_Tl_letterAt 0 [.ref a2, .int x3] [] (hp I J (pm_RT pa pb ga)) (fun r h' => h'.1 = 176 ∧ Px (k + 1) 176 m_Ty_putBack 32 [.ref 48, .int x1, .ref a2, .int x3, .null] (r.toList ++ []) h' Q)))) : Px (k + 1) 176 m_Ty_putBack 24 [.ref 48, .int x1, .ref a2, .int x3, .null] [.int s1, .int s0] (hp I J (pm_RT pa pb ga)) Q := by
  refine x_b 27 rfl rfl rfl (fun c => ?_) (fun c => ?_)
  · have h := h.1 c
    refine x_l 67 rfl rfl rfl ?_
    refine x_t 68 rfl rfl rfl ?_
    exact h
  · have h := h.2 c
    refine x_l 28 rfl rfl rfl ?_
    refine x_l 29 rfl rfl rfl ?_
    have h0 := h.1
    have h := h.2
    exact z_cv (As := [.int x3]) (rest := []) (b := a2) rfl at_Tl_letterAt rfl rfl (Nat.le_of_ble_eq_true rfl) (Nat.le_of_ble_eq_true rfl) h0 (by decide) rfl h

theorem bk_Ty_putBack_32 {k : Nat} {pa pb : Nat} {ga : Nat → Nat} {I : pm_II} {J : pm_JJ} {Q : Option Value → pm_H → Prop} {x1 : Int32} {a2 : Nat} {x3 : Int32} {s0 : Int32} (h : ((s0 < 1 → Px (k + 1) 176 m_Ty_putBack 19 [.ref 48, .int x1, .ref a2, .int (x3 + Int32.ofInt 1), .int s0] [] (hp I J (pm_RT pa pb ga)) Q) ∧ (¬ (s0 < 1) → ((26 < s0 → Px (k + 1) 176 m_Ty_putBack 19 [.ref 48, .int x1, .ref a2, .int (x3 + Int32.ofInt 1), .int s0] [] (hp I J (pm_RT pa pb ga)) Q) ∧ (¬ (26 < s0) → vp_in (s0 - (1 : Int32)) 26 ∧ vp_in (s0 - (1 : Int32)) 26 ∧ Px (k + 1) 176 m_Ty_putBack 19 [.ref 48, .int x1, .ref a2, .int (x3 + Int32.ofInt 1), .int s0] [] (hp (pm_up I 49 (((s0 - (1 : Int32)) : Int32).toNatClampNeg) ((I 49 (((s0 - (1 : Int32)) : Int32).toNatClampNeg)) + (1 : Int32))) J (pm_RT pa pb ga)) Q))))) : Px (k + 1) 176 m_Ty_putBack 32 [.ref 48, .int x1, .ref a2, .int x3, .null] [.int s0] (hp I J (pm_RT pa pb ga)) Q := by
  refine x_t 34 rfl rfl rfl ?_
  refine x_l 36 rfl rfl rfl ?_
  refine z_k 37 1 rfl (by decide) rfl ?_
  refine x_b 40 rfl rfl rfl (fun c => ?_) (fun c => ?_)
  · have h := h.1 c
    refine x_t 63 rfl rfl rfl ?_
    refine x_g rfl ?_
    exact h
  · have h := h.2 c
    refine x_l 42 rfl rfl rfl ?_
    refine z_k 44 26 rfl (by decide) rfl ?_
    refine x_b 47 rfl rfl rfl (fun c => ?_) (fun c => ?_)
    · have h := h.1 c
      refine x_t 63 rfl rfl rfl ?_
      refine x_g rfl ?_
      exact h
    · have h := h.2 c
      refine x_l 48 rfl rfl rfl ?_
      refine z_gf 51 (.ref 49) rfl ⟨rfl, rfl, rfl⟩ rfl rfl ?_
      refine x_l 53 rfl rfl rfl ?_
      refine z_k 54 1 rfl (by decide) rfl ?_
      refine x_s 55 rfl rfl rfl ?_
      refine x_s 56 rfl rfl rfl ?_
      have h1 := h.1
      have h := h.2
      refine z_il 57 26 rfl ⟨rfl, rfl, rfl⟩ rfl h1 rfl ?_
      refine z_k 58 1 rfl (by decide) rfl ?_
      refine x_s 59 rfl rfl rfl ?_
      have h1 := h.1
      have h := h.2
      refine z_is 60 26 rfl ⟨rfl, rfl, rfl⟩ rfl h1 rfl ?_
      refine x_t 63 rfl rfl rfl ?_
      refine x_g rfl ?_
      exact h

theorem bk_Ty_putBack_68 {k : Nat} {pa pb : Nat} {ga : Nat → Nat} {I : pm_II} {J : pm_JJ} {Q : Option Value → pm_H → Prop} {x1 : Int32} {a2 : Nat} {x3 : Int32} (h : ((((I 48 9) - (1 : Int32)) ≤ x3 → vp_in ((I 48 9) - (1 : Int32)) 16 ∧ pm_ob a2 8 ∧ Q (some (.int ((I 48 9) - (1 : Int32)))) (hp (pm_up I 48 9 ((I 48 9) - (1 : Int32))) J (pm_up (pm_RT pa pb ga) 56 ((((I 48 9) - (1 : Int32)) : Int32).toNatClampNeg) (.ref a2)))) ∧ (¬ (((I 48 9) - (1 : Int32)) ≤ x3) → vp_in (x3 + (1 : Int32)) 16 ∧ vp_in x3 16 ∧ pm_ob (ga (((x3 + (1 : Int32)) : Int32).toNatClampNeg)) 8 ∧ Px (k + 1) 176 m_Ty_putBack 68 [.ref 48, .int x1, .ref a2, .int (x3 + Int32.ofInt 1), .null] [] (hp I J (pm_up (pm_RT pa pb ga) 56 ((x3 : Int32).toNatClampNeg) (.ref (ga (((x3 + (1 : Int32)) : Int32).toNatClampNeg))))) Q))) : Px (k + 1) 176 m_Ty_putBack 68 [.ref 48, .int x1, .ref a2, .int x3, .null] [] (hp I J (pm_RT pa pb ga)) Q := by
  refine x_l 69 rfl rfl rfl ?_
  refine x_l 70 rfl rfl rfl ?_
  refine z_gf 73 (.int (I 48 9)) rfl ⟨rfl, rfl, rfl⟩ rfl rfl ?_
  refine z_k 74 1 rfl (by decide) rfl ?_
  refine x_s 75 rfl rfl rfl ?_
  refine x_b 78 rfl rfl rfl (fun c => ?_) (fun c => ?_)
  · have h := h.1 c
    refine x_l 99 rfl rfl rfl ?_
    refine x_s 100 rfl rfl rfl ?_
    refine z_gf 103 (.int (I 48 9)) rfl ⟨rfl, rfl, rfl⟩ rfl rfl ?_
    refine z_k 104 1 rfl (by decide) rfl ?_
    refine x_s 105 rfl rfl rfl ?_
    refine z_pi 108 rfl (Or.inl rfl) rfl (fun z => by cases z) ⟨rfl, rfl, rfl⟩ rfl ?_
    refine x_l 109 rfl rfl rfl ?_
    refine z_gf 112 (.ref 56) rfl ⟨rfl, rfl, rfl⟩ rfl rfl ?_
    refine x_l 113 rfl rfl rfl ?_
    refine z_gf 116 (.int ((I 48 9) - (1 : Int32))) rfl ⟨rfl, rfl, rfl⟩ rfl rfl ?_
    refine x_l 117 rfl rfl rfl ?_
    have h1 := h.1
    have h := h.2
    have h2 := h.1
    have h := h.2
    refine z_rs 118 16 rfl ⟨rfl, rfl, rfl⟩ rfl h1 h2 rfl ?_
    refine x_l 119 rfl rfl rfl ?_
    refine z_gf 122 (.int ((I 48 9) - (1 : Int32))) rfl ⟨rfl, rfl, rfl⟩ rfl rfl ?_
    exact x_ri rfl (Or.inl rfl) h
  · have h := h.2 c
    refine x_l 79 rfl rfl rfl ?_
    refine z_gf 82 (.ref 56) rfl ⟨rfl, rfl, rfl⟩ rfl rfl ?_
    refine x_l 83 rfl rfl rfl ?_
    refine x_l 84 rfl rfl rfl ?_
    refine z_gf 87 (.ref 56) rfl ⟨rfl, rfl, rfl⟩ rfl rfl ?_
    refine x_l 88 rfl rfl rfl ?_
    refine z_k 89 1 rfl (by decide) rfl ?_
    refine x_s 90 rfl rfl rfl ?_
    have h1 := h.1
    have h := h.2
    refine z_rl 91 16 (.ref (ga (((x3 + (1 : Int32)) : Int32).toNatClampNeg))) rfl ⟨rfl, rfl, rfl⟩ rfl h1 rfl rfl ?_
    have h1 := h.1
    have h := h.2
    have h2 := h.1
    have h := h.2
    refine z_rs 92 16 rfl ⟨rfl, rfl, rfl⟩ rfl h1 h2 rfl ?_
    refine x_t 95 rfl rfl rfl ?_
    refine x_g rfl ?_
    exact h

theorem bk_Ty_stands_0 {k : Nat} {pa pb : Nat} {ga : Nat → Nat} {I : pm_II} {J : pm_JJ} {Q : Option Value → pm_H → Prop} {x1 : Int32} (h : ((x1 < 0 → Q (some (.int 0)) (hp I J (pm_RT pa pb ga))) ∧ (¬ (x1 < 0) → (((I 48 9) ≤ x1 → Q (some (.int 0)) (hp I J (pm_RT pa pb ga))) ∧ (¬ ((I 48 9) ≤ x1) → ((16 ≤ x1 → Q (some (.int 0)) (hp I J (pm_RT pa pb ga))) ∧ (¬ (16 ≤ x1) → Q (some (.int 1)) (hp I J (pm_RT pa pb ga))))))))) : Px k 176 m_Ty_stands 0 [.ref 48, .int x1] [] (hp I J (pm_RT pa pb ga)) Q := by
  refine x_l 1 rfl rfl rfl ?_
  refine x_b 4 rfl rfl rfl (fun c => ?_) (fun c => ?_)
  · have h := h.1 c
    refine z_k 23 0 rfl (by decide) rfl ?_
    exact x_ri rfl (Or.inr ⟨rfl, Or.inl rfl⟩) h
  · have h := h.2 c
    refine x_l 5 rfl rfl rfl ?_
    refine x_l 6 rfl rfl rfl ?_
    refine z_gf 9 (.int (I 48 9)) rfl ⟨rfl, rfl, rfl⟩ rfl rfl ?_
    refine x_b 12 rfl rfl rfl (fun c => ?_) (fun c => ?_)
    · have h := h.1 c
      refine z_k 23 0 rfl (by decide) rfl ?_
      exact x_ri rfl (Or.inr ⟨rfl, Or.inl rfl⟩) h
    · have h := h.2 c
      refine x_l 13 rfl rfl rfl ?_
      refine z_k 15 16 rfl (by decide) rfl ?_
      refine x_b 18 rfl rfl rfl (fun c => ?_) (fun c => ?_)
      · have h := h.1 c
        refine z_k 23 0 rfl (by decide) rfl ?_
        exact x_ri rfl (Or.inr ⟨rfl, Or.inl rfl⟩) h
      · have h := h.2 c
        refine z_k 19 1 rfl (by decide) rfl ?_
        refine x_g rfl ?_
        exact x_ri rfl (Or.inr ⟨rfl, Or.inr rfl⟩) h

theorem bk_Tl_length_0 {k : Nat} {pa pb : Nat} {ga : Nat → Nat} {I : pm_II} {J : pm_JJ} {Q : Option Value → pm_H → Prop} {a0 : Nat} (h : pm_ob a0 8 ∧ Q (some (.int (I a0 1))) (hp I J (pm_RT pa pb ga))) : Px k 176 m_Tl_length 0 [.ref a0] [] (hp I J (pm_RT pa pb ga)) Q := by
  refine x_l 1 rfl rfl rfl ?_
  have h0 := h.1
  have h := h.2
  refine z_gf 4 (.int (I a0 1)) rfl h0 rfl rfl ?_
  exact x_ri rfl (Or.inl rfl) h

theorem bk_Tl_letterAt_0 {k : Nat} {pa pb : Nat} {ga : Nat → Nat} {I : pm_II} {J : pm_JJ} {Q : Option Value → pm_H → Prop} {a0 : Nat} {x1 : Int32} (h : ((x1 < 0 → Q (some (.int 0)) (hp I J (pm_RT pa pb ga))) ∧ (¬ (x1 < 0) → pm_ob a0 8 ∧ (((I a0 1) ≤ x1 → Q (some (.int 0)) (hp I J (pm_RT pa pb ga))) ∧ (¬ ((I a0 1) ≤ x1) → pm_ob a0 8 ∧ (pm_RT pa pb ga) a0 0 = .ref (a0 + 1) ∧ pm_ob (a0 + 1) 100 ∧ vp_in x1 (pm_sh (a0 + 1)).2 ∧ Px k 176 m_Jm_max 0 [.int 0, .int (I (a0 + 1) ((x1 : Int32).toNatClampNeg))] [] (hp I J (pm_RT pa pb ga)) (fun r h' => h'.1 = 176 ∧ Px (k + 1) 176 m_Tl_letterAt 22 [.ref a0, .int x1] (r.toList ++ []) h' Q)))))) : Px (k + 1) 176 m_Tl_letterAt 0 [.ref a0, .int x1] [] (hp I J (pm_RT pa pb ga)) Q := by
  refine x_l 1 rfl rfl rfl ?_
  refine x_b 4 rfl rfl rfl (fun c => ?_) (fun c => ?_)
  · have h := h.1 c
    refine z_k 26 0 rfl (by decide) rfl ?_
    exact x_ri rfl (Or.inl rfl) h
  · have h := h.2 c
    refine x_l 5 rfl rfl rfl ?_
    refine x_l 6 rfl rfl rfl ?_
    have h0 := h.1
    have h := h.2
    refine z_gf 9 (.int (I a0 1)) rfl h0 rfl rfl ?_
    refine x_b 12 rfl rfl rfl (fun c => ?_) (fun c => ?_)
    · have h := h.1 c
      refine z_k 26 0 rfl (by decide) rfl ?_
      exact x_ri rfl (Or.inl rfl) h
    · have h := h.2 c
      refine z_k 13 0 rfl (by decide) rfl ?_
      refine x_l 14 rfl rfl rfl ?_
      have h0 := h.1
      have h := h.2
      have h1 := h.1
      have h := h.2
      refine z_gf 17 (.ref (a0 + 1)) rfl h0 rfl h1 ?_
      refine x_l 18 rfl rfl rfl ?_
      have h0 := h.1
      have h := h.2
      have h1 := h.1
      have h := h.2
      refine z_il 19 (pm_sh (a0 + 1)).2 rfl h0 rfl h1 rfl ?_
      exact z_cs (As := [.int 0, .int (I (a0 + 1) ((x1 : Int32).toNatClampNeg))]) (rest := []) rfl at_Jm_max rfl rfl (Nat.le_of_ble_eq_true rfl) (Nat.le_of_ble_eq_true rfl) rfl h

theorem bk_Tl_letterAt_22 {k : Nat} {pa pb : Nat} {ga : Nat → Nat} {I : pm_II} {J : pm_JJ} {Q : Option Value → pm_H → Prop} {a0 : Nat} {x1 : Int32} {s0 : Int32} (h : Q (some (.int s0)) (hp I J (pm_RT pa pb ga))) : Px (k + 1) 176 m_Tl_letterAt 22 [.ref a0, .int x1] [.int s0] (hp I J (pm_RT pa pb ga)) Q := by
  refine x_g rfl ?_
  exact x_ri rfl (Or.inl rfl) h

theorem bk_Ty_tellLine_0 {k : Nat} {pa pb : Nat} {ga : Nat → Nat} {I : pm_II} {J : pm_JJ} {Q : Option Value → pm_H → Prop} {x1 : Int32} {x2 : Int32} (h : Px k 176 m_Ty_stands 0 [.ref 48, .int x1] [] (hp I J (pm_RT pa pb ga)) (fun r h' => h'.1 = 176 ∧ Px (k + 1) 176 m_Ty_tellLine 5 [.ref 48, .int x1, .int x2] (r.toList ++ []) h' Q)) : Px (k + 1) 176 m_Ty_tellLine 0 [.ref 48, .int x1, .int x2] [] (hp I J (pm_RT pa pb ga)) Q := by
  refine x_l 1 rfl rfl rfl ?_
  refine x_l 2 rfl rfl rfl ?_
  exact z_cv (As := [.int x1]) (rest := []) (b := 48) rfl at_Ty_stands rfl rfl (Nat.le_of_ble_eq_true rfl) (Nat.le_of_ble_eq_true rfl) ⟨rfl, rfl, rfl⟩ (by decide) rfl h

theorem bk_Ty_tellLine_5 {k : Nat} {pa pb : Nat} {ga : Nat → Nat} {I : pm_II} {J : pm_JJ} {Q : Option Value → pm_H → Prop} {x1 : Int32} {x2 : Int32} {s0 : Int32} (h : ((s0 = 0 → Q (some (.int (-1))) (hp I J (pm_RT pa pb ga))) ∧ (¬ (s0 = 0) → vp_in x1 16 ∧ pm_ob (ga ((x1 : Int32).toNatClampNeg)) 8 ∧ Px k 176 m_Tl_tell 0 [.ref (ga ((x1 : Int32).toNatClampNeg)), .int x2] [] (hp I J (pm_RT pa pb ga)) (fun r h' => h'.1 = 176 ∧ Px (k + 1) 176 m_Ty_tellLine 18 [.ref 48, .int x1, .int x2] (r.toList ++ []) h' Q)))) : Px (k + 1) 176 m_Ty_tellLine 5 [.ref 48, .int x1, .int x2] [.int s0] (hp I J (pm_RT pa pb ga)) Q := by
  refine x_b 8 rfl rfl rfl (fun c => ?_) (fun c => ?_)
  · have h := h.1 c
    refine z_k 22 (-1) rfl (by decide) rfl ?_
    exact x_ri rfl (Or.inl rfl) h
  · have h := h.2 c
    refine x_l 9 rfl rfl rfl ?_
    refine z_gf 12 (.ref 56) rfl ⟨rfl, rfl, rfl⟩ rfl rfl ?_
    refine x_l 13 rfl rfl rfl ?_
    have h1 := h.1
    have h := h.2
    refine z_rl 14 16 (.ref (ga ((x1 : Int32).toNatClampNeg))) rfl ⟨rfl, rfl, rfl⟩ rfl h1 rfl rfl ?_
    refine x_l 15 rfl rfl rfl ?_
    have h0 := h.1
    have h := h.2
    exact z_cv (As := [.int x2]) (rest := []) (b := (ga ((x1 : Int32).toNatClampNeg))) rfl at_Tl_tell rfl rfl (Nat.le_of_ble_eq_true rfl) (Nat.le_of_ble_eq_true rfl) h0 (by decide) rfl h

theorem bk_Ty_tellLine_18 {k : Nat} {pa pb : Nat} {ga : Nat → Nat} {I : pm_II} {J : pm_JJ} {Q : Option Value → pm_H → Prop} {x1 : Int32} {x2 : Int32} {s0 : Int32} (h : Q (some (.int s0)) (hp I J (pm_RT pa pb ga))) : Px (k + 1) 176 m_Ty_tellLine 18 [.ref 48, .int x1, .int x2] [.int s0] (hp I J (pm_RT pa pb ga)) Q := by
  refine x_g rfl ?_
  exact x_ri rfl (Or.inl rfl) h

theorem bk_Tl_tell_0 {k : Nat} {pa pb : Nat} {ga : Nat → Nat} {I : pm_II} {J : pm_JJ} {Q : Option Value → pm_H → Prop} {a0 : Nat} {x1 : Int32} (h : ((x1 = nI 0 → pm_ob a0 8 ∧ Q (some (.int (I a0 2))) (hp I J (pm_RT pa pb ga))) ∧ (x1 = nI 1 → pm_ob a0 8 ∧ Q (some (.int (I a0 3))) (hp I J (pm_RT pa pb ga))) ∧ (x1 = nI 2 → pm_ob a0 8 ∧ Q (some (.int (I a0 4))) (hp I J (pm_RT pa pb ga))) ∧ (x1 = nI 3 → pm_ob a0 8 ∧ Q (some (.int (I a0 5))) (hp I J (pm_RT pa pb ga))) ∧ (x1 = nI 4 → pm_ob a0 8 ∧ Q (some (.int (I a0 6))) (hp I J (pm_RT pa pb ga))) ∧ ((x1 < 0 ∨ nI 4 < x1) → Q (some (.int (-1))) (hp I J (pm_RT pa pb ga))))) : Px k 176 m_Tl_tell 0 [.ref a0, .int x1] [] (hp I J (pm_RT pa pb ga)) Q := by
  refine x_l 1 rfl rfl rfl ?_
  refine z_sw 4 (dt := 61) rfl rfl (by decide) (fun i hi e => ?_) (fun c => ?_)
  · match i, hi with
    | 0, _ =>
      refine ⟨_, 36, rfl, rfl, ?_⟩
      have h := h.1 e
      refine x_l 37 rfl rfl rfl ?_
      have h0 := h.1
      have h := h.2
      refine z_gf 40 (.int (I a0 2)) rfl h0 rfl rfl ?_
      exact x_ri rfl (Or.inl rfl) h
    | 1, _ =>
      refine ⟨_, 41, rfl, rfl, ?_⟩
      have h := h.2.1 e
      refine x_l 42 rfl rfl rfl ?_
      have h0 := h.1
      have h := h.2
      refine z_gf 45 (.int (I a0 3)) rfl h0 rfl rfl ?_
      exact x_ri rfl (Or.inl rfl) h
    | 2, _ =>
      refine ⟨_, 46, rfl, rfl, ?_⟩
      have h := h.2.2.1 e
      refine x_l 47 rfl rfl rfl ?_
      have h0 := h.1
      have h := h.2
      refine z_gf 50 (.int (I a0 4)) rfl h0 rfl rfl ?_
      exact x_ri rfl (Or.inl rfl) h
    | 3, _ =>
      refine ⟨_, 51, rfl, rfl, ?_⟩
      have h := h.2.2.2.1 e
      refine x_l 52 rfl rfl rfl ?_
      have h0 := h.1
      have h := h.2
      refine z_gf 55 (.int (I a0 5)) rfl h0 rfl rfl ?_
      exact x_ri rfl (Or.inl rfl) h
    | 4, _ =>
      refine ⟨_, 56, rfl, rfl, ?_⟩
      have h := h.2.2.2.2.1 e
      refine x_l 57 rfl rfl rfl ?_
      have h0 := h.1
      have h := h.2
      refine z_gf 60 (.int (I a0 6)) rfl h0 rfl rfl ?_
      exact x_ri rfl (Or.inl rfl) h
    | n + 5, hi => exact absurd hi (by omega)
  · have h := h.2.2.2.2.2 c
    refine z_k 62 (-1) rfl (by decide) rfl ?_
    exact x_ri rfl (Or.inl rfl) h

theorem bk_Ty_tellStrip_0 {k : Nat} {pa pb : Nat} {ga : Nat → Nat} {I : pm_II} {J : pm_JJ} {Q : Option Value → pm_H → Prop} {x1 : Int32} {x2 : Int32} (h : Px k 176 m_Ty_stands 0 [.ref 48, .int x1] [] (hp I J (pm_RT pa pb ga)) (fun r h' => h'.1 = 176 ∧ Px (k + 1) 176 m_Ty_tellStrip 5 [.ref 48, .int x1, .int x2] (r.toList ++ []) h' Q)) : Px (k + 1) 176 m_Ty_tellStrip 0 [.ref 48, .int x1, .int x2] [] (hp I J (pm_RT pa pb ga)) Q := by
  refine x_l 1 rfl rfl rfl ?_
  refine x_l 2 rfl rfl rfl ?_
  exact z_cv (As := [.int x1]) (rest := []) (b := 48) rfl at_Ty_stands rfl rfl (Nat.le_of_ble_eq_true rfl) (Nat.le_of_ble_eq_true rfl) ⟨rfl, rfl, rfl⟩ (by decide) rfl h

theorem bk_Ty_tellStrip_5 {k : Nat} {pa pb : Nat} {ga : Nat → Nat} {I : pm_II} {J : pm_JJ} {Q : Option Value → pm_H → Prop} {x1 : Int32} {x2 : Int32} {s0 : Int32} (h : ((s0 = 0 → Q (some (.int (-1))) (hp I J (pm_RT pa pb ga))) ∧ (¬ (s0 = 0) → vp_in x1 16 ∧ pm_ob (ga ((x1 : Int32).toNatClampNeg)) 8 ∧ Px k 176 m_Tl_backwards 0 [.ref (ga ((x1 : Int32).toNatClampNeg)), .int x2, .null] [] (hp I J (pm_RT pa pb ga)) (fun r h' => h'.1 = 176 ∧ Px (k + 1) 176 m_Ty_tellStrip 18 [.ref 48, .int x1, .int x2] (r.toList ++ []) h' Q)))) : Px (k + 1) 176 m_Ty_tellStrip 5 [.ref 48, .int x1, .int x2] [.int s0] (hp I J (pm_RT pa pb ga)) Q := by
  refine x_b 8 rfl rfl rfl (fun c => ?_) (fun c => ?_)
  · have h := h.1 c
    refine z_k 22 (-1) rfl (by decide) rfl ?_
    exact x_ri rfl (Or.inl rfl) h
  · have h := h.2 c
    refine x_l 9 rfl rfl rfl ?_
    refine z_gf 12 (.ref 56) rfl ⟨rfl, rfl, rfl⟩ rfl rfl ?_
    refine x_l 13 rfl rfl rfl ?_
    have h1 := h.1
    have h := h.2
    refine z_rl 14 16 (.ref (ga ((x1 : Int32).toNatClampNeg))) rfl ⟨rfl, rfl, rfl⟩ rfl h1 rfl rfl ?_
    refine x_l 15 rfl rfl rfl ?_
    have h0 := h.1
    have h := h.2
    exact z_cv (As := [.int x2]) (rest := []) (b := (ga ((x1 : Int32).toNatClampNeg))) rfl at_Tl_backwards rfl rfl (Nat.le_of_ble_eq_true rfl) (Nat.le_of_ble_eq_true rfl) h0 (by decide) rfl h

theorem bk_Ty_tellStrip_18 {k : Nat} {pa pb : Nat} {ga : Nat → Nat} {I : pm_II} {J : pm_JJ} {Q : Option Value → pm_H → Prop} {x1 : Int32} {x2 : Int32} {s0 : Int32} (h : Q (some (.int s0)) (hp I J (pm_RT pa pb ga))) : Px (k + 1) 176 m_Ty_tellStrip 18 [.ref 48, .int x1, .int x2] [.int s0] (hp I J (pm_RT pa pb ga)) Q := by
  refine x_g rfl ?_
  exact x_ri rfl (Or.inl rfl) h

theorem bk_Tl_backwards_0 {k : Nat} {pa pb : Nat} {ga : Nat → Nat} {I : pm_II} {J : pm_JJ} {Q : Option Value → pm_H → Prop} {a0 : Nat} {x1 : Int32} (h : ((x1 < 0 → Q (some (.int (-1))) (hp I J (pm_RT pa pb ga))) ∧ (¬ (x1 < 0) → pm_ob a0 8 ∧ ((x1 < (I a0 1) → pm_ob a0 8 ∧ (pm_RT pa pb ga) a0 0 = .ref (a0 + 1) ∧ pm_ob a0 8 ∧ pm_ob (a0 + 1) 100 ∧ vp_in (((I a0 1) - (1 : Int32)) - x1) (pm_sh (a0 + 1)).2 ∧ (((I (a0 + 1) (((((I a0 1) - (1 : Int32)) - x1) : Int32).toNatClampNeg)) ≤ 0 → Px k 176 m_Jm_min_II 0 [.int 40, .int (((30 : Int32) - (I (a0 + 1) (((((I a0 1) - (1 : Int32)) - x1) : Int32).toNatClampNeg))) - (3 : Int32))] [] (hp I J (pm_RT pa pb ga)) (fun r h' => h'.1 = 176 ∧ Px (k + 1) 176 m_Tl_backwards 47 [.ref a0, .int x1, .int (I (a0 + 1) (((((I a0 1) - (1 : Int32)) - x1) : Int32).toNatClampNeg))] (r.toList ++ []) h' Q)) ∧ (¬ ((I (a0 + 1) (((((I a0 1) - (1 : Int32)) - x1) : Int32).toNatClampNeg)) ≤ 0) → Px (k + 1) 176 m_Tl_backwards 47 [.ref a0, .int x1, .int (I (a0 + 1) (((((I a0 1) - (1 : Int32)) - x1) : Int32).toNatClampNeg))] [.int (I (a0 + 1) (((((I a0 1) - (1 : Int32)) - x1) : Int32).toNatClampNeg))] (hp I J (pm_RT pa pb ga)) Q))) ∧ (¬ (x1 < (I a0 1)) → Q (some (.int (-1))) (hp I J (pm_RT pa pb ga))))))) : Px (k + 1) 176 m_Tl_backwards 0 [.ref a0, .int x1, .null] [] (hp I J (pm_RT pa pb ga)) Q := by
  refine x_l 1 rfl rfl rfl ?_
  refine x_b 4 rfl rfl rfl (fun c => ?_) (fun c => ?_)
  · have h := h.1 c
    refine z_k 13 (-1) rfl (by decide) rfl ?_
    exact x_ri rfl (Or.inl rfl) h
  · have h := h.2 c
    refine x_l 5 rfl rfl rfl ?_
    refine x_l 6 rfl rfl rfl ?_
    have h0 := h.1
    have h := h.2
    refine z_gf 9 (.int (I a0 1)) rfl h0 rfl rfl ?_
    refine x_b 12 rfl rfl rfl (fun c => ?_) (fun c => ?_)
    · have h := h.1 c
      refine x_l 15 rfl rfl rfl ?_
      have h0 := h.1
      have h := h.2
      have h1 := h.1
      have h := h.2
      refine z_gf 18 (.ref (a0 + 1)) rfl h0 rfl h1 ?_
      refine x_l 19 rfl rfl rfl ?_
      have h0 := h.1
      have h := h.2
      refine z_gf 22 (.int (I a0 1)) rfl h0 rfl rfl ?_
      refine z_k 23 1 rfl (by decide) rfl ?_
      refine x_s 24 rfl rfl rfl ?_
      refine x_l 25 rfl rfl rfl ?_
      refine x_s 26 rfl rfl rfl ?_
      have h0 := h.1
      have h := h.2
      have h1 := h.1
      have h := h.2
      refine z_il 27 (pm_sh (a0 + 1)).2 rfl h0 rfl h1 rfl ?_
      refine x_t 28 rfl rfl rfl ?_
      refine x_l 29 rfl rfl rfl ?_
      refine x_b 32 rfl rfl rfl (fun c => ?_) (fun c => ?_)
      · have h := h.1 c
        refine z_k 38 40 rfl (by decide) rfl ?_
        refine z_k 40 30 rfl (by decide) rfl ?_
        refine x_l 41 rfl rfl rfl ?_
        refine x_s 42 rfl rfl rfl ?_
        refine z_k 43 3 rfl (by decide) rfl ?_
        refine x_s 44 rfl rfl rfl ?_
        exact z_cs (As := [.int 40, .int (((30 : Int32) - (I (a0 + 1) (((((I a0 1) - (1 : Int32)) - x1) : Int32).toNatClampNeg))) - (3 : Int32))]) (rest := []) rfl at_Jm_min_II rfl rfl (Nat.le_of_ble_eq_true rfl) (Nat.le_of_ble_eq_true rfl) rfl h
      · have h := h.2 c
        refine x_l 33 rfl rfl rfl ?_
        refine x_g rfl ?_
        exact h
    · have h := h.2 c
      refine z_k 13 (-1) rfl (by decide) rfl ?_
      exact x_ri rfl (Or.inl rfl) h

theorem bk_Tl_backwards_47 {k : Nat} {pa pb : Nat} {ga : Nat → Nat} {I : pm_II} {J : pm_JJ} {Q : Option Value → pm_H → Prop} {a0 : Nat} {x1 : Int32} {x2 : Int32} {s0 : Int32} (h : Q (some (.int s0)) (hp I J (pm_RT pa pb ga))) : Px (k + 1) 176 m_Tl_backwards 47 [.ref a0, .int x1, .int x2] [.int s0] (hp I J (pm_RT pa pb ga)) Q := by
  exact x_ri rfl (Or.inl rfl) h

theorem bk_Ty_stockOf_0 {k : Nat} {pa pb : Nat} {ga : Nat → Nat} {I : pm_II} {J : pm_JJ} {Q : Option Value → pm_H → Prop} {x1 : Int32} (h : ((x1 < 1 → Q (some (.int (-1))) (hp I J (pm_RT pa pb ga))) ∧ (¬ (x1 < 1) → ((x1 ≤ 26 → vp_in (x1 - (1 : Int32)) 26 ∧ Q (some (.int (I 49 (((x1 - (1 : Int32)) : Int32).toNatClampNeg)))) (hp I J (pm_RT pa pb ga))) ∧ (¬ (x1 ≤ 26) → Q (some (.int (-1))) (hp I J (pm_RT pa pb ga))))))) : Px k 176 m_Ty_stockOf 0 [.ref 48, .int x1] [] (hp I J (pm_RT pa pb ga)) Q := by
  refine x_l 1 rfl rfl rfl ?_
  refine z_k 2 1 rfl (by decide) rfl ?_
  refine x_b 5 rfl rfl rfl (fun c => ?_) (fun c => ?_)
  · have h := h.1 c
    refine z_k 12 (-1) rfl (by decide) rfl ?_
    refine x_g rfl ?_
    exact x_ri rfl (Or.inl rfl) h
  · have h := h.2 c
    refine x_l 6 rfl rfl rfl ?_
    refine z_k 8 26 rfl (by decide) rfl ?_
    refine x_b 11 rfl rfl rfl (fun c => ?_) (fun c => ?_)
    · have h := h.1 c
      refine x_l 16 rfl rfl rfl ?_
      refine z_gf 19 (.ref 49) rfl ⟨rfl, rfl, rfl⟩ rfl rfl ?_
      refine x_l 20 rfl rfl rfl ?_
      refine z_k 21 1 rfl (by decide) rfl ?_
      refine x_s 22 rfl rfl rfl ?_
      have h1 := h.1
      have h := h.2
      refine z_il 23 26 rfl ⟨rfl, rfl, rfl⟩ rfl h1 rfl ?_
      exact x_ri rfl (Or.inl rfl) h
    · have h := h.2 c
      refine z_k 12 (-1) rfl (by decide) rfl ?_
      refine x_g rfl ?_
      exact x_ri rfl (Or.inl rfl) h

theorem bk_Pi_takeText_0 {k : Nat} {pa pb : Nat} {ga : Nat → Nat} {I : pm_II} {J : pm_JJ} {Q : Option Value → pm_H → Prop} {a0 : Nat} {x2 : Int32} {x3 : Int32} (h : pm_ob a0 3 ∧ (pm_RT pa pb ga) a0 0 = .ref (a0 + 1) ∧ pm_ob (a0 + 1) 100 ∧ vp_in 0 (pm_sh (a0 + 1)).2 ∧ pm_ob a0 3 ∧ (pm_RT pa pb ga) a0 1 = .ref (a0 + 2) ∧ pm_ob (a0 + 2) 100 ∧ vp_in 0 (pm_sh (a0 + 2)).2 ∧ pm_ob a0 3 ∧ (pm_RT pa pb ga) a0 2 = .ref (a0 + 3) ∧ pm_ob (a0 + 3) 100 ∧ vp_in 0 (pm_sh (a0 + 3)).2 ∧ pm_ob a0 3 ∧ (pm_RT pa pb ga) a0 3 = .ref (a0 + 4) ∧ pm_ob (a0 + 4) 100 ∧ vp_in 0 (pm_sh (a0 + 4)).2 ∧ pm_ob a0 3 ∧ Px (k + 1) 176 m_Pi_takeText 36 [.ref a0, .ref 17, .int x2, .int x3, .int 0] [] (hp (pm_up (pm_up (pm_up (pm_up (pm_up I (a0 + 1) 0 0) (a0 + 2) 0 0) (a0 + 3) 0 x2) (a0 + 4) 0 x3) a0 4 1) J (pm_RT pa pb ga)) Q) : Px (k + 1) 176 m_Pi_takeText 0 [.ref a0, .ref 17, .int x2, .int x3, .null] [] (hp I J (pm_RT pa pb ga)) Q := by
  refine x_l 1 rfl rfl rfl ?_
  have h0 := h.1
  have h := h.2
  have h1 := h.1
  have h := h.2
  refine z_gf 4 (.ref (a0 + 1)) rfl h0 rfl h1 ?_
  refine z_k 5 0 rfl (by decide) rfl ?_
  refine z_k 6 0 rfl (by decide) rfl ?_
  have h0 := h.1
  have h := h.2
  have h1 := h.1
  have h := h.2
  refine z_is 7 (pm_sh (a0 + 1)).2 rfl h0 rfl h1 rfl ?_
  refine x_l 8 rfl rfl rfl ?_
  have h0 := h.1
  have h := h.2
  have h1 := h.1
  have h := h.2
  refine z_gf 11 (.ref (a0 + 2)) rfl h0 rfl h1 ?_
  refine z_k 12 0 rfl (by decide) rfl ?_
  refine z_k 13 0 rfl (by decide) rfl ?_
  have h0 := h.1
  have h := h.2
  have h1 := h.1
  have h := h.2
  refine z_is 14 (pm_sh (a0 + 2)).2 rfl h0 rfl h1 rfl ?_
  refine x_l 15 rfl rfl rfl ?_
  have h0 := h.1
  have h := h.2
  have h1 := h.1
  have h := h.2
  refine z_gf 18 (.ref (a0 + 3)) rfl h0 rfl h1 ?_
  refine z_k 19 0 rfl (by decide) rfl ?_
  refine x_l 20 rfl rfl rfl ?_
  have h0 := h.1
  have h := h.2
  have h1 := h.1
  have h := h.2
  refine z_is 21 (pm_sh (a0 + 3)).2 rfl h0 rfl h1 rfl ?_
  refine x_l 22 rfl rfl rfl ?_
  have h0 := h.1
  have h := h.2
  have h1 := h.1
  have h := h.2
  refine z_gf 25 (.ref (a0 + 4)) rfl h0 rfl h1 ?_
  refine z_k 26 0 rfl (by decide) rfl ?_
  refine x_l 27 rfl rfl rfl ?_
  have h0 := h.1
  have h := h.2
  have h1 := h.1
  have h := h.2
  refine z_is 28 (pm_sh (a0 + 4)).2 rfl h0 rfl h1 rfl ?_
  refine x_l 29 rfl rfl rfl ?_
  refine z_k 30 1 rfl (by decide) rfl ?_
  have h0 := h.1
  have h := h.2
  refine z_pi 33 rfl (Or.inl rfl) rfl (fun z => by cases z) h0 rfl ?_
  refine z_k 34 0 rfl (by decide) rfl ?_
  refine x_t 36 rfl rfl rfl ?_
  exact h

theorem bk_Pi_takeText_36 {k : Nat} {pa pb : Nat} {ga : Nat → Nat} {I : pm_II} {J : pm_JJ} {Q : Option Value → pm_H → Prop} {a0 : Nat} {x2 : Int32} {x3 : Int32} {x4 : Int32} (h : ((30 ≤ x4 → Px (k + 1) 176 m_Pi_takeText 61 [.ref a0, .ref 17, .int x2, .int x3, .int x4] [] (hp I J (pm_RT pa pb ga)) Q) ∧ (¬ (30 ≤ x4) → Px k 176 m_Ta_hasMore 0 [.ref 17] [] (hp I J (pm_RT pa pb ga)) (fun r h' => h'.1 = 176 ∧ Px (k + 1) 176 m_Pi_takeText 47 [.ref a0, .ref 17, .int x2, .int x3, .int x4] (r.toList ++ []) h' Q)))) : Px (k + 1) 176 m_Pi_takeText 36 [.ref a0, .ref 17, .int x2, .int x3, .int x4] [] (hp I J (pm_RT pa pb ga)) Q := by
  refine x_l 38 rfl rfl rfl ?_
  refine z_k 40 30 rfl (by decide) rfl ?_
  refine x_b 43 rfl rfl rfl (fun c => ?_) (fun c => ?_)
  · have h := h.1 c
    exact h
  · have h := h.2 c
    refine x_l 44 rfl rfl rfl ?_
    exact z_cv (As := []) (rest := []) (b := 17) rfl at_Ta_hasMore rfl rfl (Nat.le_of_ble_eq_true rfl) (Nat.le_of_ble_eq_true rfl) ⟨rfl, rfl, rfl⟩ (by decide) rfl h

theorem bk_Pi_takeText_47 {k : Nat} {pa pb : Nat} {ga : Nat → Nat} {I : pm_II} {J : pm_JJ} {Q : Option Value → pm_H → Prop} {a0 : Nat} {x2 : Int32} {x3 : Int32} {x4 : Int32} {s0 : Int32} (h : ((s0 = 0 → Px (k + 1) 176 m_Pi_takeText 61 [.ref a0, .ref 17, .int x2, .int x3, .int x4] [] (hp I J (pm_RT pa pb ga)) Q) ∧ (¬ (s0 = 0) → pm_ob a0 3 ∧ Px k 176 m_Pi_readCut 0 [.ref a0, .ref 17, .null, .null, .null] [] (hp I J (pm_RT pa pb ga)) (fun r h' => h'.1 = 176 ∧ Px (k + 1) 176 m_Pi_takeText 55 [.ref a0, .ref 17, .int x2, .int x3, .int x4] (r.toList ++ []) h' Q)))) : Px (k + 1) 176 m_Pi_takeText 47 [.ref a0, .ref 17, .int x2, .int x3, .int x4] [.int s0] (hp I J (pm_RT pa pb ga)) Q := by
  refine x_b 50 rfl rfl rfl (fun c => ?_) (fun c => ?_)
  · have h := h.1 c
    exact h
  · have h := h.2 c
    refine x_l 51 rfl rfl rfl ?_
    refine x_l 52 rfl rfl rfl ?_
    have h0 := h.1
    have h := h.2
    exact z_cv (As := [.ref 17]) (rest := []) (b := a0) rfl at_Pi_readCut rfl rfl (Nat.le_of_ble_eq_true rfl) (Nat.le_of_ble_eq_true rfl) h0 (by decide) rfl h

theorem bk_Pi_takeText_55 {k : Nat} {pa pb : Nat} {ga : Nat → Nat} {I : pm_II} {J : pm_JJ} {Q : Option Value → pm_H → Prop} {a0 : Nat} {x2 : Int32} {x3 : Int32} {x4 : Int32} (h : Px (k + 1) 176 m_Pi_takeText 36 [.ref a0, .ref 17, .int x2, .int x3, .int (x4 + Int32.ofInt 1)] [] (hp I J (pm_RT pa pb ga)) Q) : Px (k + 1) 176 m_Pi_takeText 55 [.ref a0, .ref 17, .int x2, .int x3, .int x4] [] (hp I J (pm_RT pa pb ga)) Q := by
  refine x_t 58 rfl rfl rfl ?_
  refine x_g rfl ?_
  exact h

theorem bk_Pi_takeText_61 {k : Nat} {pa pb : Nat} {ga : Nat → Nat} {I : pm_II} {J : pm_JJ} {Q : Option Value → pm_H → Prop} {a0 : Nat} {x2 : Int32} {x3 : Int32} {x4 : Int32} (h : Px k 176 m_Ta_finish 0 [.ref 17] [] (hp I J (pm_RT pa pb ga)) (fun r h' => h'.1 = 176 ∧ Px (k + 1) 176 m_Pi_takeText 65 [.ref a0, .ref 17, .int x2, .int x3, .int x4] (r.toList ++ []) h' Q)) : Px (k + 1) 176 m_Pi_takeText 61 [.ref a0, .ref 17, .int x2, .int x3, .int x4] [] (hp I J (pm_RT pa pb ga)) Q := by
  refine x_l 62 rfl rfl rfl ?_
  exact z_cv (As := []) (rest := []) (b := 17) rfl at_Ta_finish rfl rfl (Nat.le_of_ble_eq_true rfl) (Nat.le_of_ble_eq_true rfl) ⟨rfl, rfl, rfl⟩ (by decide) rfl h

theorem bk_Pi_takeText_65 {k : Nat} {pa pb : Nat} {ga : Nat → Nat} {I : pm_II} {J : pm_JJ} {Q : Option Value → pm_H → Prop} {a0 : Nat} {x2 : Int32} {x3 : Int32} {x4 : Int32} (h : pm_ob a0 3 ∧ Q (some (.int (I a0 4))) (hp I J (pm_RT pa pb ga))) : Px (k + 1) 176 m_Pi_takeText 65 [.ref a0, .ref 17, .int x2, .int x3, .int x4] [] (hp I J (pm_RT pa pb ga)) Q := by
  refine x_l 66 rfl rfl rfl ?_
  have h0 := h.1
  have h := h.2
  refine z_gf 69 (.int (I a0 4)) rfl h0 rfl rfl ?_
  exact x_ri rfl (Or.inl rfl) h

theorem bk_Pi_readCut_0 {k : Nat} {pa pb : Nat} {ga : Nat → Nat} {I : pm_II} {J : pm_JJ} {Q : Option Value → pm_H → Prop} {a0 : Nat} (h : Px k 176 m_Ta_readEither 0 [.ref 17, .ref 9, .ref 10, .null] [] (hp I J (pm_RT pa pb ga)) (fun r h' => h'.1 = 176 ∧ Px (k + 1) 176 m_Pi_readCut 8 [.ref a0, .ref 17, .null, .null, .null] (r.toList ++ []) h' Q)) : Px (k + 1) 176 m_Pi_readCut 0 [.ref a0, .ref 17, .null, .null, .null] [] (hp I J (pm_RT pa pb ga)) Q := by
  refine x_l 1 rfl rfl rfl ?_
  refine x_ls 3 rfl (Or.inl rfl) rfl ?_
  refine x_ls 5 rfl (Or.inl rfl) rfl ?_
  exact z_cv (As := [.ref 9, .ref 10]) (rest := []) (b := 17) rfl at_Ta_readEither rfl rfl (Nat.le_of_ble_eq_true rfl) (Nat.le_of_ble_eq_true rfl) ⟨rfl, rfl, rfl⟩ (by decide) rfl h

theorem bk_Pi_readCut_8 {k : Nat} {pa pb : Nat} {ga : Nat → Nat} {I : pm_II} {J : pm_JJ} {Q : Option Value → pm_H → Prop} {a0 : Nat} {s0 : Int32} (h : ((¬ s0 = 1 → Px (k + 1) 176 m_Pi_readCut 17 [.ref a0, .ref 17, .null, .null, .null] [.int 0] (hp I J (pm_RT pa pb ga)) Q) ∧ (¬ (¬ s0 = 1) → Px (k + 1) 176 m_Pi_readCut 17 [.ref a0, .ref 17, .null, .null, .null] [.int 1] (hp I J (pm_RT pa pb ga)) Q))) : Px (k + 1) 176 m_Pi_readCut 8 [.ref a0, .ref 17, .null, .null, .null] [.int s0] (hp I J (pm_RT pa pb ga)) Q := by
  refine z_k 9 1 rfl (by decide) rfl ?_
  refine x_b 12 rfl rfl rfl (fun c => ?_) (fun c => ?_)
  · have h := h.1 c
    refine z_k 17 0 rfl (by decide) rfl ?_
    exact h
  · have h := h.2 c
    refine z_k 13 1 rfl (by decide) rfl ?_
    refine x_g rfl ?_
    exact h

theorem bk_Pi_readCut_17 {k : Nat} {pa pb : Nat} {ga : Nat → Nat} {I : pm_II} {J : pm_JJ} {Q : Option Value → pm_H → Prop} {a0 : Nat} {s0 : Int32} (h : pm_ob a0 3 ∧ Px k 176 m_Ta_readNextNumber 0 [.ref 17, .int 0, .int ((I a0 4) - (1 : Int32))] [] (hp I J (pm_RT pa pb ga)) (fun r h' => h'.1 = 176 ∧ Px (k + 1) 176 m_Pi_readCut 29 [.ref a0, .ref 17, .int s0, .null, .null] (r.toList ++ []) h' Q)) : Px (k + 1) 176 m_Pi_readCut 17 [.ref a0, .ref 17, .null, .null, .null] [.int s0] (hp I J (pm_RT pa pb ga)) Q := by
  refine x_t 18 rfl rfl rfl ?_
  refine x_l 19 rfl rfl rfl ?_
  refine z_k 20 0 rfl (by decide) rfl ?_
  refine x_l 21 rfl rfl rfl ?_
  have h0 := h.1
  have h := h.2
  refine z_gf 24 (.int (I a0 4)) rfl h0 rfl rfl ?_
  refine z_k 25 1 rfl (by decide) rfl ?_
  refine x_s 26 rfl rfl rfl ?_
  exact z_cv (As := [.int 0, .int ((I a0 4) - (1 : Int32))]) (rest := []) (b := 17) rfl at_Ta_readNextNumber rfl rfl (Nat.le_of_ble_eq_true rfl) (Nat.le_of_ble_eq_true rfl) ⟨rfl, rfl, rfl⟩ (by decide) rfl h

theorem bk_Pi_readCut_29 {k : Nat} {pa pb : Nat} {ga : Nat → Nat} {I : pm_II} {J : pm_JJ} {Q : Option Value → pm_H → Prop} {a0 : Nat} {x2 : Int32} {s0 : Int32} (h : pm_ob a0 3 ∧ Px k 176 m_Pi_has 0 [.ref a0, .int s0] [] (hp I J (pm_RT pa pb ga)) (fun r h' => h'.1 = 176 ∧ Px (k + 1) 176 m_Pi_readCut 35 [.ref a0, .ref 17, .int x2, .int s0, .null] (r.toList ++ []) h' Q)) : Px (k + 1) 176 m_Pi_readCut 29 [.ref a0, .ref 17, .int x2, .null, .null] [.int s0] (hp I J (pm_RT pa pb ga)) Q := by
  refine x_t 30 rfl rfl rfl ?_
  refine x_l 31 rfl rfl rfl ?_
  refine x_l 32 rfl rfl rfl ?_
  have h0 := h.1
  have h := h.2
  exact z_cv (As := [.int s0]) (rest := []) (b := a0) rfl at_Pi_has rfl rfl (Nat.le_of_ble_eq_true rfl) (Nat.le_of_ble_eq_true rfl) h0 (by decide) rfl h

theorem bk_Pi_readCut_35 {k : Nat} {pa pb : Nat} {ga : Nat → Nat} {I : pm_II} {J : pm_JJ} {Q : Option Value → pm_H → Prop} {a0 : Nat} {x2 : Int32} {x3 : Int32} {s0 : Int32} (h : ((s0 = 0 → Q none (hp I J (pm_RT pa pb ga))) ∧ (¬ (s0 = 0) → pm_ob a0 3 ∧ (((I a0 4) ≤ 30 → ((x2 = 0 → pm_ob a0 3 ∧ (pm_RT pa pb ga) a0 2 = .ref (a0 + 3) ∧ pm_ob (a0 + 3) 100 ∧ vp_in x3 (pm_sh (a0 + 3)).2 ∧ Px (k + 1) 176 m_Pi_readCut 69 [.ref a0, .ref 17, .int x2, .int x3, .null] [.int (I (a0 + 3) ((x3 : Int32).toNatClampNeg)), .int 1, .ref 17] (hp I J (pm_RT pa pb ga)) Q) ∧ (¬ (x2 = 0) → pm_ob a0 3 ∧ (pm_RT pa pb ga) a0 3 = .ref (a0 + 4) ∧ pm_ob (a0 + 4) 100 ∧ vp_in x3 (pm_sh (a0 + 4)).2 ∧ Px (k + 1) 176 m_Pi_readCut 69 [.ref a0, .ref 17, .int x2, .int x3, .null] [.int (I (a0 + 4) ((x3 : Int32).toNatClampNeg)), .int 1, .ref 17] (hp I J (pm_RT pa pb ga)) Q))) ∧ (¬ ((I a0 4) ≤ 30) → Q none (hp I J (pm_RT pa pb ga))))))) : Px (k + 1) 176 m_Pi_readCut 35 [.ref a0, .ref 17, .int x2, .int x3, .null] [.int s0] (hp I J (pm_RT pa pb ga)) Q := by
  refine x_b 38 rfl rfl rfl (fun c => ?_) (fun c => ?_)
  · have h := h.1 c
    exact x_rv rfl rfl h
  · have h := h.2 c
    refine x_l 39 rfl rfl rfl ?_
    have h0 := h.1
    have h := h.2
    refine z_gf 42 (.int (I a0 4)) rfl h0 rfl rfl ?_
    refine z_k 44 30 rfl (by decide) rfl ?_
    refine x_b 47 rfl rfl rfl (fun c => ?_) (fun c => ?_)
    · have h := h.1 c
      refine x_l 49 rfl rfl rfl ?_
      refine z_k 50 1 rfl (by decide) rfl ?_
      refine x_l 51 rfl rfl rfl ?_
      refine x_b 54 rfl rfl rfl (fun c => ?_) (fun c => ?_)
      · have h := h.1 c
        refine x_l 64 rfl rfl rfl ?_
        have h0 := h.1
        have h := h.2
        have h1 := h.1
        have h := h.2
        refine z_gf 67 (.ref (a0 + 3)) rfl h0 rfl h1 ?_
        refine x_l 68 rfl rfl rfl ?_
        have h0 := h.1
        have h := h.2
        have h1 := h.1
        have h := h.2
        refine z_il 69 (pm_sh (a0 + 3)).2 rfl h0 rfl h1 rfl ?_
        exact h
      · have h := h.2 c
        refine x_l 55 rfl rfl rfl ?_
        have h0 := h.1
        have h := h.2
        have h1 := h.1
        have h := h.2
        refine z_gf 58 (.ref (a0 + 4)) rfl h0 rfl h1 ?_
        refine x_l 59 rfl rfl rfl ?_
        have h0 := h.1
        have h := h.2
        have h1 := h.1
        have h := h.2
        refine z_il 60 (pm_sh (a0 + 4)).2 rfl h0 rfl h1 rfl ?_
        refine x_g rfl ?_
        exact h
    · have h := h.2 c
      exact x_rv rfl rfl h

theorem bk_Pi_readCut_69 {k : Nat} {pa pb : Nat} {ga : Nat → Nat} {I : pm_II} {J : pm_JJ} {Q : Option Value → pm_H → Prop} {a0 : Nat} {x2 : Int32} {x3 : Int32} {s1 : Int32} {s2 : Int32} (h : Px k 176 m_Ta_readNextNumber 0 [.ref 17, .int s1, .int (s2 - (1 : Int32))] [] (hp I J (pm_RT pa pb ga)) (fun r h' => h'.1 = 176 ∧ Px (k + 1) 176 m_Pi_readCut 74 [.ref a0, .ref 17, .int x2, .int x3, .null] (r.toList ++ []) h' Q)) : Px (k + 1) 176 m_Pi_readCut 69 [.ref a0, .ref 17, .int x2, .int x3, .null] [.int s2, .int s1, .ref 17] (hp I J (pm_RT pa pb ga)) Q := by
  refine z_k 70 1 rfl (by decide) rfl ?_
  refine x_s 71 rfl rfl rfl ?_
  exact z_cv (As := [.int s1, .int (s2 - (1 : Int32))]) (rest := []) (b := 17) rfl at_Ta_readNextNumber rfl rfl (Nat.le_of_ble_eq_true rfl) (Nat.le_of_ble_eq_true rfl) ⟨rfl, rfl, rfl⟩ (by decide) rfl h

theorem bk_Pi_readCut_74 {k : Nat} {pa pb : Nat} {ga : Nat → Nat} {I : pm_II} {J : pm_JJ} {Q : Option Value → pm_H → Prop} {a0 : Nat} {x2 : Int32} {x3 : Int32} {s0 : Int32} (h : Px k 176 m_Ta_expect 0 [.ref 17, .int 10] [] (hp I J (pm_RT pa pb ga)) (fun r h' => h'.1 = 176 ∧ Px (k + 1) 176 m_Pi_readCut 82 [.ref a0, .ref 17, .int x2, .int x3, .int s0] (r.toList ++ []) h' Q)) : Px (k + 1) 176 m_Pi_readCut 74 [.ref a0, .ref 17, .int x2, .int x3, .null] [.int s0] (hp I J (pm_RT pa pb ga)) Q := by
  refine x_t 76 rfl rfl rfl ?_
  refine x_l 77 rfl rfl rfl ?_
  refine z_k 79 10 rfl (by decide) rfl ?_
  exact z_cv (As := [.int 10]) (rest := []) (b := 17) rfl at_Ta_expect rfl rfl (Nat.le_of_ble_eq_true rfl) (Nat.le_of_ble_eq_true rfl) ⟨rfl, rfl, rfl⟩ (by decide) rfl h

theorem bk_Pi_readCut_82 {k : Nat} {pa pb : Nat} {ga : Nat → Nat} {I : pm_II} {J : pm_JJ} {Q : Option Value → pm_H → Prop} {a0 : Nat} {x2 : Int32} {x3 : Int32} {x4 : Int32} (h : Px k 176 m_Ta_isRight 0 [.ref 17] [] (hp I J (pm_RT pa pb ga)) (fun r h' => h'.1 = 176 ∧ Px (k + 1) 176 m_Pi_readCut 86 [.ref a0, .ref 17, .int x2, .int x3, .int x4] (r.toList ++ []) h' Q)) : Px (k + 1) 176 m_Pi_readCut 82 [.ref a0, .ref 17, .int x2, .int x3, .int x4] [] (hp I J (pm_RT pa pb ga)) Q := by
  refine x_l 83 rfl rfl rfl ?_
  exact z_cv (As := []) (rest := []) (b := 17) rfl at_Ta_isRight rfl rfl (Nat.le_of_ble_eq_true rfl) (Nat.le_of_ble_eq_true rfl) ⟨rfl, rfl, rfl⟩ (by decide) rfl h

theorem bk_Pi_readCut_86 {k : Nat} {pa pb : Nat} {ga : Nat → Nat} {I : pm_II} {J : pm_JJ} {Q : Option Value → pm_H → Prop} {a0 : Nat} {x2 : Int32} {x3 : Int32} {x4 : Int32} {s0 : Int32} (h : ((s0 = 0 → Px (k + 1) 176 m_Pi_readCut 114 [.ref a0, .ref 17, .int x2, .int x3, .int x4] [] (hp I J (pm_RT pa pb ga)) Q) ∧ (¬ (s0 = 0) → ((x2 = 0 → Px (k + 1) 176 m_Pi_readCut 101 [.ref a0, .ref 17, .int x2, .int x3, .int x4] [.int x4, .int x3, .ref a0] (hp I J (pm_RT pa pb ga)) Q) ∧ (¬ (x2 = 0) → Px (k + 1) 176 m_Pi_readCut 101 [.ref a0, .ref 17, .int x2, .int x3, .int x4] [.int 0, .int x3, .ref a0] (hp I J (pm_RT pa pb ga)) Q))))) : Px (k + 1) 176 m_Pi_readCut 86 [.ref a0, .ref 17, .int x2, .int x3, .int x4] [.int s0] (hp I J (pm_RT pa pb ga)) Q := by
  refine x_b 89 rfl rfl rfl (fun c => ?_) (fun c => ?_)
  · have h := h.1 c
    exact h
  · have h := h.2 c
    refine x_l 90 rfl rfl rfl ?_
    refine x_l 91 rfl rfl rfl ?_
    refine x_l 92 rfl rfl rfl ?_
    refine x_b 95 rfl rfl rfl (fun c => ?_) (fun c => ?_)
    · have h := h.1 c
      refine x_l 101 rfl rfl rfl ?_
      exact h
    · have h := h.2 c
      refine z_k 96 0 rfl (by decide) rfl ?_
      refine x_g rfl ?_
      exact h

theorem bk_Pi_readCut_101 {k : Nat} {pa pb : Nat} {ga : Nat → Nat} {I : pm_II} {J : pm_JJ} {Q : Option Value → pm_H → Prop} {a0 : Nat} {x2 : Int32} {x3 : Int32} {x4 : Int32} {b0 : Nat} {s1 : Int32} {s2 : Int32} (h : ((x2 = 0 → Px (k + 1) 176 m_Pi_readCut 111 [.ref a0, .ref 17, .int x2, .int x3, .int x4] [.int 0, .int s2, .int s1, .ref b0] (hp I J (pm_RT pa pb ga)) Q) ∧ (¬ (x2 = 0) → Px (k + 1) 176 m_Pi_readCut 111 [.ref a0, .ref 17, .int x2, .int x3, .int x4] [.int x4, .int s2, .int s1, .ref b0] (hp I J (pm_RT pa pb ga)) Q))) : Px (k + 1) 176 m_Pi_readCut 101 [.ref a0, .ref 17, .int x2, .int x3, .int x4] [.int s2, .int s1, .ref b0] (hp I J (pm_RT pa pb ga)) Q := by
  refine x_l 102 rfl rfl rfl ?_
  refine x_b 105 rfl rfl rfl (fun c => ?_) (fun c => ?_)
  · have h := h.1 c
    refine z_k 111 0 rfl (by decide) rfl ?_
    exact h
  · have h := h.2 c
    refine x_l 107 rfl rfl rfl ?_
    refine x_g rfl ?_
    exact h

theorem bk_Pi_readCut_111 {k : Nat} {pa pb : Nat} {ga : Nat → Nat} {I : pm_II} {J : pm_JJ} {Q : Option Value → pm_H → Prop} {a0 : Nat} {x2 : Int32} {x3 : Int32} {x4 : Int32} {b0 : Nat} {s1 : Int32} {s2 : Int32} {s3 : Int32} (h : pm_ob b0 3 ∧ Px k 176 m_Pi_cutOff 0 [.ref b0, .int s1, .int s2, .int s3] [] (hp I J (pm_RT pa pb ga)) (fun r h' => h'.1 = 176 ∧ Px (k + 1) 176 m_Pi_readCut 114 [.ref a0, .ref 17, .int x2, .int x3, .int x4] (r.toList ++ []) h' Q)) : Px (k + 1) 176 m_Pi_readCut 111 [.ref a0, .ref 17, .int x2, .int x3, .int x4] [.int s3, .int s2, .int s1, .ref b0] (hp I J (pm_RT pa pb ga)) Q := by
  have h0 := h.1
  have h := h.2
  exact z_cv (As := [.int s1, .int s2, .int s3]) (rest := []) (b := b0) rfl at_Pi_cutOff rfl rfl (Nat.le_of_ble_eq_true rfl) (Nat.le_of_ble_eq_true rfl) h0 (by decide) rfl h

theorem bk_Pi_readCut_114 {k : Nat} {pa pb : Nat} {ga : Nat → Nat} {I : pm_II} {J : pm_JJ} {Q : Option Value → pm_H → Prop} {a0 : Nat} {x2 : Int32} {x3 : Int32} {x4 : Int32} (h : Q none (hp I J (pm_RT pa pb ga))) : Px (k + 1) 176 m_Pi_readCut 114 [.ref a0, .ref 17, .int x2, .int x3, .int x4] [] (hp I J (pm_RT pa pb ga)) Q := by
  exact x_rv rfl rfl h

theorem bk_Pi_has_0 {k : Nat} {pa pb : Nat} {ga : Nat → Nat} {I : pm_II} {J : pm_JJ} {Q : Option Value → pm_H → Prop} {a0 : Nat} {x1 : Int32} (h : ((x1 < 0 → Q (some (.int 0)) (hp I J (pm_RT pa pb ga))) ∧ (¬ (x1 < 0) → pm_ob a0 3 ∧ (((I a0 4) ≤ x1 → Q (some (.int 0)) (hp I J (pm_RT pa pb ga))) ∧ (¬ ((I a0 4) ≤ x1) → ((30 < x1 → Q (some (.int 0)) (hp I J (pm_RT pa pb ga))) ∧ (¬ (30 < x1) → Q (some (.int 1)) (hp I J (pm_RT pa pb ga))))))))) : Px k 176 m_Pi_has 0 [.ref a0, .int x1] [] (hp I J (pm_RT pa pb ga)) Q := by
  refine x_l 1 rfl rfl rfl ?_
  refine x_b 4 rfl rfl rfl (fun c => ?_) (fun c => ?_)
  · have h := h.1 c
    refine z_k 23 0 rfl (by decide) rfl ?_
    exact x_ri rfl (Or.inr ⟨rfl, Or.inl rfl⟩) h
  · have h := h.2 c
    refine x_l 5 rfl rfl rfl ?_
    refine x_l 6 rfl rfl rfl ?_
    have h0 := h.1
    have h := h.2
    refine z_gf 9 (.int (I a0 4)) rfl h0 rfl rfl ?_
    refine x_b 12 rfl rfl rfl (fun c => ?_) (fun c => ?_)
    · have h := h.1 c
      refine z_k 23 0 rfl (by decide) rfl ?_
      exact x_ri rfl (Or.inr ⟨rfl, Or.inl rfl⟩) h
    · have h := h.2 c
      refine x_l 13 rfl rfl rfl ?_
      refine z_k 15 30 rfl (by decide) rfl ?_
      refine x_b 18 rfl rfl rfl (fun c => ?_) (fun c => ?_)
      · have h := h.1 c
        refine z_k 23 0 rfl (by decide) rfl ?_
        exact x_ri rfl (Or.inr ⟨rfl, Or.inl rfl⟩) h
      · have h := h.2 c
        refine z_k 19 1 rfl (by decide) rfl ?_
        refine x_g rfl ?_
        exact x_ri rfl (Or.inr ⟨rfl, Or.inr rfl⟩) h

theorem bk_Pi_cutOff_0 {k : Nat} {pa pb : Nat} {ga : Nat → Nat} {I : pm_II} {J : pm_JJ} {Q : Option Value → pm_H → Prop} {a0 : Nat} {x1 : Int32} {x2 : Int32} {x3 : Int32} (h : pm_ob a0 3 ∧ (pm_RT pa pb ga) a0 0 = .ref (a0 + 1) ∧ pm_ob a0 3 ∧ pm_ob a0 3 ∧ (pm_RT pa pb ga) a0 0 = .ref (a0 + 1) ∧ pm_ob (a0 + 1) 100 ∧ vp_in x1 (pm_sh (a0 + 1)).2 ∧ pm_ob (a0 + 1) 100 ∧ vp_in (I a0 4) (pm_sh (a0 + 1)).2 ∧ pm_ob a0 3 ∧ (pm_RT pa pb ga) a0 1 = .ref (a0 + 2) ∧ pm_ob a0 3 ∧ pm_ob a0 3 ∧ (pm_RT pa pb ga) a0 1 = .ref (a0 + 2) ∧ pm_ob (a0 + 2) 100 ∧ vp_in x1 (pm_sh (a0 + 2)).2 ∧ pm_ob (a0 + 2) 100 ∧ vp_in ((pm_up I (a0 + 1) (((I a0 4) : Int32).toNatClampNeg) ((I (a0 + 1) ((x1 : Int32).toNatClampNeg)) + x2)) a0 4) (pm_sh (a0 + 2)).2 ∧ pm_ob a0 3 ∧ (pm_RT pa pb ga) a0 2 = .ref (a0 + 3) ∧ pm_ob a0 3 ∧ pm_ob a0 3 ∧ (pm_RT pa pb ga) a0 2 = .ref (a0 + 3) ∧ pm_ob (a0 + 3) 100 ∧ vp_in x1 (pm_sh (a0 + 3)).2 ∧ pm_ob (a0 + 3) 100 ∧ vp_in ((pm_up (pm_up I (a0 + 1) (((I a0 4) : Int32).toNatClampNeg) ((I (a0 + 1) ((x1 : Int32).toNatClampNeg)) + x2)) (a0 + 2) ((((pm_up I (a0 + 1) (((I a0 4) : Int32).toNatClampNeg) ((I (a0 + 1) ((x1 : Int32).toNatClampNeg)) + x2)) a0 4) : Int32).toNatClampNeg) (((pm_up I (a0 + 1) (((I a0 4) : Int32).toNatClampNeg) ((I (a0 + 1) ((x1 : Int32).toNatClampNeg)) + x2)) (a0 + 2) ((x1 : Int32).toNatClampNeg)) + x3)) a0 4) (pm_sh (a0 + 3)).2 ∧ pm_ob a0 3 ∧ (pm_RT pa pb ga) a0 3 = .ref (a0 + 4) ∧ pm_ob a0 3 ∧ pm_ob a0 3 ∧ (pm_RT pa pb ga) a0 3 = .ref (a0 + 4) ∧ pm_ob (a0 + 4) 100 ∧ vp_in x1 (pm_sh (a0 + 4)).2 ∧ pm_ob (a0 + 4) 100 ∧ vp_in ((pm_up (pm_up (pm_up I (a0 + 1) (((I a0 4) : Int32).toNatClampNeg) ((I (a0 + 1) ((x1 : Int32).toNatClampNeg)) + x2)) (a0 + 2) ((((pm_up I (a0 + 1) (((I a0 4) : Int32).toNatClampNeg) ((I (a0 + 1) ((x1 : Int32).toNatClampNeg)) + x2)) a0 4) : Int32).toNatClampNeg) (((pm_up I (a0 + 1) (((I a0 4) : Int32).toNatClampNeg) ((I (a0 + 1) ((x1 : Int32).toNatClampNeg)) + x2)) (a0 + 2) ((x1 : Int32).toNatClampNeg)) + x3)) (a0 + 3) ((((pm_up (pm_up I (a0 + 1) (((I a0 4) : Int32).toNatClampNeg) ((I (a0 + 1) ((x1 : Int32).toNatClampNeg)) + x2)) (a0 + 2) ((((pm_up I (a0 + 1) (((I a0 4) : Int32).toNatClampNeg) ((I (a0 + 1) ((x1 : Int32).toNatClampNeg)) + x2)) a0 4) : Int32).toNatClampNeg) (((pm_up I (a0 + 1) (((I a0 4) : Int32).toNatClampNeg) ((I (a0 + 1) ((x1 : Int32).toNatClampNeg)) + x2)) (a0 + 2) ((x1 : Int32).toNatClampNeg)) + x3)) a0 4) : Int32).toNatClampNeg) (((pm_up (pm_up I (a0 + 1) (((I a0 4) : Int32).toNatClampNeg) ((I (a0 + 1) ((x1 : Int32).toNatClampNeg)) + x2)) (a0 + 2) ((((pm_up I (a0 + 1) (((I a0 4) : Int32).toNatClampNeg) ((I (a0 + 1) ((x1 : Int32).toNatClampNeg)) + x2)) a0 4) : Int32).toNatClampNeg) (((pm_up I (a0 + 1) (((I a0 4) : Int32).toNatClampNeg) ((I (a0 + 1) ((x1 : Int32).toNatClampNeg)) + x2)) (a0 + 2) ((x1 : Int32).toNatClampNeg)) + x3)) (a0 + 3) ((x1 : Int32).toNatClampNeg)) - x2)) a0 4) (pm_sh (a0 + 4)).2 ∧ ((x2 ≤ 0 → pm_ob a0 3 ∧ (pm_RT pa pb ga) a0 3 = .ref (a0 + 4) ∧ pm_ob (a0 + 4) 100 ∧ vp_in x1 (pm_sh (a0 + 4)).2 ∧ pm_ob a0 3 ∧ pm_ob a0 3 ∧ Q none (hp (pm_up (pm_up (pm_up (pm_up (pm_up (pm_up I (a0 + 1) (((I a0 4) : Int32).toNatClampNeg) ((I (a0 + 1) ((x1 : Int32).toNatClampNeg)) + x2)) (a0 + 2) ((((pm_up I (a0 + 1) (((I a0 4) : Int32).toNatClampNeg) ((I (a0 + 1) ((x1 : Int32).toNatClampNeg)) + x2)) a0 4) : Int32).toNatClampNeg) (((pm_up I (a0 + 1) (((I a0 4) : Int32).toNatClampNeg) ((I (a0 + 1) ((x1 : Int32).toNatClampNeg)) + x2)) (a0 + 2) ((x1 : Int32).toNatClampNeg)) + x3)) (a0 + 3) ((((pm_up (pm_up I (a0 + 1) (((I a0 4) : Int32).toNatClampNeg) ((I (a0 + 1) ((x1 : Int32).toNatClampNeg)) + x2)) (a0 + 2) ((((pm_up I (a0 + 1) (((I a0 4) : Int32).toNatClampNeg) ((I (a0 + 1) ((x1 : Int32).toNatClampNeg)) + x2)) a0 4) : Int32).toNatClampNeg) (((pm_up I (a0 + 1) (((I a0 4) : Int32).toNatClampNeg) ((I (a0 + 1) ((x1 : Int32).toNatClampNeg)) + x2)) (a0 + 2) ((x1 : Int32).toNatClampNeg)) + x3)) a0 4) : Int32).toNatClampNeg) (((pm_up (pm_up I (a0 + 1) (((I a0 4) : Int32).toNatClampNeg) ((I (a0 + 1) ((x1 : Int32).toNatClampNeg)) + x2)) (a0 + 2) ((((pm_up I (a0 + 1) (((I a0 4) : Int32).toNatClampNeg) ((I (a0 + 1) ((x1 : Int32).toNatClampNeg)) + x2)) a0 4) : Int32).toNatClampNeg) (((pm_up I (a0 + 1) (((I a0 4) : Int32).toNatClampNeg) ((I (a0 + 1) ((x1 : Int32).toNatClampNeg)) + x2)) (a0 + 2) ((x1 : Int32).toNatClampNeg)) + x3)) (a0 + 3) ((x1 : Int32).toNatClampNeg)) - x2)) (a0 + 4) ((((pm_up (pm_up (pm_up I (a0 + 1) (((I a0 4) : Int32).toNatClampNeg) ((I (a0 + 1) ((x1 : Int32).toNatClampNeg)) + x2)) (a0 + 2) ((((pm_up I (a0 + 1) (((I a0 4) : Int32).toNatClampNeg) ((I (a0 + 1) ((x1 : Int32).toNatClampNeg)) + x2)) a0 4) : Int32).toNatClampNeg) (((pm_up I (a0 + 1) (((I a0 4) : Int32).toNatClampNeg) ((I (a0 + 1) ((x1 : Int32).toNatClampNeg)) + x2)) (a0 + 2) ((x1 : Int32).toNatClampNeg)) + x3)) (a0 + 3) ((((pm_up (pm_up I (a0 + 1) (((I a0 4) : Int32).toNatClampNeg) ((I (a0 + 1) ((x1 : Int32).toNatClampNeg)) + x2)) (a0 + 2) ((((pm_up I (a0 + 1) (((I a0 4) : Int32).toNatClampNeg) ((I (a0 + 1) ((x1 : Int32).toNatClampNeg)) + x2)) a0 4) : Int32).toNatClampNeg) (((pm_up I (a0 + 1) (((I a0 4) : Int32).toNatClampNeg) ((I (a0 + 1) ((x1 : Int32).toNatClampNeg)) + x2)) (a0 + 2) ((x1 : Int32).toNatClampNeg)) + x3)) a0 4) : Int32).toNatClampNeg) (((pm_up (pm_up I (a0 + 1) (((I a0 4) : Int32).toNatClampNeg) ((I (a0 + 1) ((x1 : Int32).toNatClampNeg)) + x2)) (a0 + 2) ((((pm_up I (a0 + 1) (((I a0 4) : Int32).toNatClampNeg) ((I (a0 + 1) ((x1 : Int32).toNatClampNeg)) + x2)) a0 4) : Int32).toNatClampNeg) (((pm_up I (a0 + 1) (((I a0 4) : Int32).toNatClampNeg) ((I (a0 + 1) ((x1 : Int32).toNatClampNeg)) + x2)) (a0 + 2) ((x1 : Int32).toNatClampNeg)) + x3)) (a0 + 3) ((x1 : Int32).toNatClampNeg)) - x2)) a0 4) : Int32).toNatClampNeg) (((pm_up (pm_up (pm_up I (a0 + 1) (((I a0 4) : Int32).toNatClampNeg) ((I (a0 + 1) ((x1 : Int32).toNatClampNeg)) + x2)) (a0 + 2) ((((pm_up I (a0 + 1) (((I a0 4) : Int32).toNatClampNeg) ((I (a0 + 1) ((x1 : Int32).toNatClampNeg)) + x2)) a0 4) : Int32).toNatClampNeg) (((pm_up I (a0 + 1) (((I a0 4) : Int32).toNatClampNeg) ((I (a0 + 1) ((x1 : Int32).toNatClampNeg)) + x2)) (a0 + 2) ((x1 : Int32).toNatClampNeg)) + x3)) (a0 + 3) ((((pm_up (pm_up I (a0 + 1) (((I a0 4) : Int32).toNatClampNeg) ((I (a0 + 1) ((x1 : Int32).toNatClampNeg)) + x2)) (a0 + 2) ((((pm_up I (a0 + 1) (((I a0 4) : Int32).toNatClampNeg) ((I (a0 + 1) ((x1 : Int32).toNatClampNeg)) + x2)) a0 4) : Int32).toNatClampNeg) (((pm_up I (a0 + 1) (((I a0 4) : Int32).toNatClampNeg) ((I (a0 + 1) ((x1 : Int32).toNatClampNeg)) + x2)) (a0 + 2) ((x1 : Int32).toNatClampNeg)) + x3)) a0 4) : Int32).toNatClampNeg) (((pm_up (pm_up I (a0 + 1) (((I a0 4) : Int32).toNatClampNeg) ((I (a0 + 1) ((x1 : Int32).toNatClampNeg)) + x2)) (a0 + 2) ((((pm_up I (a0 + 1) (((I a0 4) : Int32).toNatClampNeg) ((I (a0 + 1) ((x1 : Int32).toNatClampNeg)) + x2)) a0 4) : Int32).toNatClampNeg) (((pm_up I (a0 + 1) (((I a0 4) : Int32).toNatClampNeg) ((I (a0 + 1) ((x1 : Int32).toNatClampNeg)) + x2)) (a0 + 2) ((x1 : Int32).toNatClampNeg)) + x3)) (a0 + 3) ((x1 : Int32).toNatClampNeg)) - x2)) (a0 + 4) ((x1 : Int32).toNatClampNeg)) - x3)) (a0 + 4) ((x1 : Int32).toNatClampNeg) x3) a0 4 (((pm_up (pm_up (pm_up (pm_up (pm_up I (a0 + 1) (((I a0 4) : Int32).toNatClampNeg) ((I (a0 + 1) ((x1 : Int32).toNatClampNeg)) + x2)) (a0 + 2) ((((pm_up I (a0 + 1) (((I a0 4) : Int32).toNatClampNeg) ((I (a0 + 1) ((x1 : Int32).toNatClampNeg)) + x2)) a0 4) : Int32).toNatClampNeg) (((pm_up I (a0 + 1) (((I a0 4) : Int32).toNatClampNeg) ((I (a0 + 1) ((x1 : Int32).toNatClampNeg)) + x2)) (a0 + 2) ((x1 : Int32).toNatClampNeg)) + x3)) (a0 + 3) ((((pm_up (pm_up I (a0 + 1) (((I a0 4) : Int32).toNatClampNeg) ((I (a0 + 1) ((x1 : Int32).toNatClampNeg)) + x2)) (a0 + 2) ((((pm_up I (a0 + 1) (((I a0 4) : Int32).toNatClampNeg) ((I (a0 + 1) ((x1 : Int32).toNatClampNeg)) + x2)) a0 4) : Int32).toNatClampNeg) (((pm_up I (a0 + 1) (((I a0 4) : Int32).toNatClampNeg) ((I (a0 + 1) ((x1 : Int32).toNatClampNeg)) + x2)) (a0 + 2) ((x1 : Int32).toNatClampNeg)) + x3)) a0 4) : Int32).toNatClampNeg) (((pm_up (pm_up I (a0 + 1) (((I a0 4) : Int32).toNatClampNeg) ((I (a0 + 1) ((x1 : Int32).toNatClampNeg)) + x2)) (a0 + 2) ((((pm_up I (a0 + 1) (((I a0 4) : Int32).toNatClampNeg) ((I (a0 + 1) ((x1 : Int32).toNatClampNeg)) + x2)) a0 4) : Int32).toNatClampNeg) (((pm_up I (a0 + 1) (((I a0 4) : Int32).toNatClampNeg) ((I (a0 + 1) ((x1 : Int32).toNatClampNeg)) + x2)) (a0 + 2) ((x1 : Int32).toNatClampNeg)) + x3)) (a0 + 3) ((x1 : Int32).toNatClampNeg)) - x2)) (a0 + 4) ((((pm_up (pm_up (pm_up I (a0 + 1) (((I a0 4) : Int32).toNatClampNeg) ((I (a0 + 1) ((x1 : Int32).toNatClampNeg)) + x2)) (a0 + 2) ((((pm_up I (a0 + 1) (((I a0 4) : Int32).toNatClampNeg) ((I (a0 + 1) ((x1 : Int32).toNatClampNeg)) + x2)) a0 4) : Int32).toNatClampNeg) (((pm_up I (a0 + 1) (((I a0 4) : Int32).toNatClampNeg) ((I (a0 + 1) ((x1 : Int32).toNatClampNeg)) + x2)) (a0 + 2) ((x1 : Int32).toNatClampNeg)) + x3)) (a0 + 3) ((((pm_up (pm_up I (a0 + 1) (((I a0 4) : Int32).toNatClampNeg) ((I (a0 + 1) ((x1 : Int32).toNatClampNeg)) + x2)) (a0 + 2) ((((pm_up I (a0 + 1) (((I a0 4) : Int32).toNatClampNeg) ((I (a0 + 1) ((x1 : Int32).toNatClampNeg)) + x2)) a0 4) : Int32).toNatClampNeg) (((pm_up I (a0 + 1) (((I a0 4) : Int32).toNatClampNeg) ((I (a0 + 1) ((x1 : Int32).toNatClampNeg)) + x2)) (a0 + 2) ((x1 : Int32).toNatClampNeg)) + x3)) a0 4) : Int32).toNatClampNeg) (((pm_up (pm_up I (a0 + 1) (((I a0 4) : Int32).toNatClampNeg) ((I (a0 + 1) ((x1 : Int32).toNatClampNeg)) + x2)) (a0 + 2) ((((pm_up I (a0 + 1) (((I a0 4) : Int32).toNatClampNeg) ((I (a0 + 1) ((x1 : Int32).toNatClampNeg)) + x2)) a0 4) : Int32).toNatClampNeg) (((pm_up I (a0 + 1) (((I a0 4) : Int32).toNatClampNeg) ((I (a0 + 1) ((x1 : Int32).toNatClampNeg)) + x2)) (a0 + 2) ((x1 : Int32).toNatClampNeg)) + x3)) (a0 + 3) ((x1 : Int32).toNatClampNeg)) - x2)) a0 4) : Int32).toNatClampNeg) (((pm_up (pm_up (pm_up I (a0 + 1) (((I a0 4) : Int32).toNatClampNeg) ((I (a0 + 1) ((x1 : Int32).toNatClampNeg)) + x2)) (a0 + 2) ((((pm_up I (a0 + 1) (((I a0 4) : Int32).toNatClampNeg) ((I (a0 + 1) ((x1 : Int32).toNatClampNeg)) + x2)) a0 4) : Int32).toNatClampNeg) (((pm_up I (a0 + 1) (((I a0 4) : Int32).toNatClampNeg) ((I (a0 + 1) ((x1 : Int32).toNatClampNeg)) + x2)) (a0 + 2) ((x1 : Int32).toNatClampNeg)) + x3)) (a0 + 3) ((((pm_up (pm_up I (a0 + 1) (((I a0 4) : Int32).toNatClampNeg) ((I (a0 + 1) ((x1 : Int32).toNatClampNeg)) + x2)) (a0 + 2) ((((pm_up I (a0 + 1) (((I a0 4) : Int32).toNatClampNeg) ((I (a0 + 1) ((x1 : Int32).toNatClampNeg)) + x2)) a0 4) : Int32).toNatClampNeg) (((pm_up I (a0 + 1) (((I a0 4) : Int32).toNatClampNeg) ((I (a0 + 1) ((x1 : Int32).toNatClampNeg)) + x2)) (a0 + 2) ((x1 : Int32).toNatClampNeg)) + x3)) a0 4) : Int32).toNatClampNeg) (((pm_up (pm_up I (a0 + 1) (((I a0 4) : Int32).toNatClampNeg) ((I (a0 + 1) ((x1 : Int32).toNatClampNeg)) + x2)) (a0 + 2) ((((pm_up I (a0 + 1) (((I a0 4) : Int32).toNatClampNeg) ((I (a0 + 1) ((x1 : Int32).toNatClampNeg)) + x2)) a0 4) : Int32).toNatClampNeg) (((pm_up I (a0 + 1) (((I a0 4) : Int32).toNatClampNeg) ((I (a0 + 1) ((x1 : Int32).toNatClampNeg)) + x2)) (a0 + 2) ((x1 : Int32).toNatClampNeg)) + x3)) (a0 + 3) ((x1 : Int32).toNatClampNeg)) - x2)) (a0 + 4) ((x1 : Int32).toNatClampNeg)) - x3)) (a0 + 4) ((x1 : Int32).toNatClampNeg) x3) a0 4) + (1 : Int32))) J (pm_RT pa pb ga))) ∧ (¬ (x2 ≤ 0) → pm_ob a0 3 ∧ (pm_RT pa pb ga) a0 2 = .ref (a0 + 3) ∧ pm_ob (a0 + 3) 100 ∧ vp_in x1 (pm_sh (a0 + 3)).2 ∧ pm_ob a0 3 ∧ pm_ob a0 3 ∧ Q none (hp (pm_up (pm_up (pm_up (pm_up (pm_up (pm_up I (a0 + 1) (((I a0 4) : Int32).toNatClampNeg) ((I (a0 + 1) ((x1 : Int32).toNatClampNeg)) + x2)) (a0 + 2) ((((pm_up I (a0 + 1) (((I a0 4) : Int32).toNatClampNeg) ((I (a0 + 1) ((x1 : Int32).toNatClampNeg)) + x2)) a0 4) : Int32).toNatClampNeg) (((pm_up I (a0 + 1) (((I a0 4) : Int32).toNatClampNeg) ((I (a0 + 1) ((x1 : Int32).toNatClampNeg)) + x2)) (a0 + 2) ((x1 : Int32).toNatClampNeg)) + x3)) (a0 + 3) ((((pm_up (pm_up I (a0 + 1) (((I a0 4) : Int32).toNatClampNeg) ((I (a0 + 1) ((x1 : Int32).toNatClampNeg)) + x2)) (a0 + 2) ((((pm_up I (a0 + 1) (((I a0 4) : Int32).toNatClampNeg) ((I (a0 + 1) ((x1 : Int32).toNatClampNeg)) + x2)) a0 4) : Int32).toNatClampNeg) (((pm_up I (a0 + 1) (((I a0 4) : Int32).toNatClampNeg) ((I (a0 + 1) ((x1 : Int32).toNatClampNeg)) + x2)) (a0 + 2) ((x1 : Int32).toNatClampNeg)) + x3)) a0 4) : Int32).toNatClampNeg) (((pm_up (pm_up I (a0 + 1) (((I a0 4) : Int32).toNatClampNeg) ((I (a0 + 1) ((x1 : Int32).toNatClampNeg)) + x2)) (a0 + 2) ((((pm_up I (a0 + 1) (((I a0 4) : Int32).toNatClampNeg) ((I (a0 + 1) ((x1 : Int32).toNatClampNeg)) + x2)) a0 4) : Int32).toNatClampNeg) (((pm_up I (a0 + 1) (((I a0 4) : Int32).toNatClampNeg) ((I (a0 + 1) ((x1 : Int32).toNatClampNeg)) + x2)) (a0 + 2) ((x1 : Int32).toNatClampNeg)) + x3)) (a0 + 3) ((x1 : Int32).toNatClampNeg)) - x2)) (a0 + 4) ((((pm_up (pm_up (pm_up I (a0 + 1) (((I a0 4) : Int32).toNatClampNeg) ((I (a0 + 1) ((x1 : Int32).toNatClampNeg)) + x2)) (a0 + 2) ((((pm_up I (a0 + 1) (((I a0 4) : Int32).toNatClampNeg) ((I (a0 + 1) ((x1 : Int32).toNatClampNeg)) + x2)) a0 4) : Int32).toNatClampNeg) (((pm_up I (a0 + 1) (((I a0 4) : Int32).toNatClampNeg) ((I (a0 + 1) ((x1 : Int32).toNatClampNeg)) + x2)) (a0 + 2) ((x1 : Int32).toNatClampNeg)) + x3)) (a0 + 3) ((((pm_up (pm_up I (a0 + 1) (((I a0 4) : Int32).toNatClampNeg) ((I (a0 + 1) ((x1 : Int32).toNatClampNeg)) + x2)) (a0 + 2) ((((pm_up I (a0 + 1) (((I a0 4) : Int32).toNatClampNeg) ((I (a0 + 1) ((x1 : Int32).toNatClampNeg)) + x2)) a0 4) : Int32).toNatClampNeg) (((pm_up I (a0 + 1) (((I a0 4) : Int32).toNatClampNeg) ((I (a0 + 1) ((x1 : Int32).toNatClampNeg)) + x2)) (a0 + 2) ((x1 : Int32).toNatClampNeg)) + x3)) a0 4) : Int32).toNatClampNeg) (((pm_up (pm_up I (a0 + 1) (((I a0 4) : Int32).toNatClampNeg) ((I (a0 + 1) ((x1 : Int32).toNatClampNeg)) + x2)) (a0 + 2) ((((pm_up I (a0 + 1) (((I a0 4) : Int32).toNatClampNeg) ((I (a0 + 1) ((x1 : Int32).toNatClampNeg)) + x2)) a0 4) : Int32).toNatClampNeg) (((pm_up I (a0 + 1) (((I a0 4) : Int32).toNatClampNeg) ((I (a0 + 1) ((x1 : Int32).toNatClampNeg)) + x2)) (a0 + 2) ((x1 : Int32).toNatClampNeg)) + x3)) (a0 + 3) ((x1 : Int32).toNatClampNeg)) - x2)) a0 4) : Int32).toNatClampNeg) (((pm_up (pm_up (pm_up I (a0 + 1) (((I a0 4) : Int32).toNatClampNeg) ((I (a0 + 1) ((x1 : Int32).toNatClampNeg)) + x2)) (a0 + 2) ((((pm_up I (a0 + 1) (((I a0 4) : Int32).toNatClampNeg) ((I (a0 + 1) ((x1 : Int32).toNatClampNeg)) + x2)) a0 4) : Int32).toNatClampNeg) (((pm_up I (a0 + 1) (((I a0 4) : Int32).toNatClampNeg) ((I (a0 + 1) ((x1 : Int32).toNatClampNeg)) + x2)) (a0 + 2) ((x1 : Int32).toNatClampNeg)) + x3)) (a0 + 3) ((((pm_up (pm_up I (a0 + 1) (((I a0 4) : Int32).toNatClampNeg) ((I (a0 + 1) ((x1 : Int32).toNatClampNeg)) + x2)) (a0 + 2) ((((pm_up I (a0 + 1) (((I a0 4) : Int32).toNatClampNeg) ((I (a0 + 1) ((x1 : Int32).toNatClampNeg)) + x2)) a0 4) : Int32).toNatClampNeg) (((pm_up I (a0 + 1) (((I a0 4) : Int32).toNatClampNeg) ((I (a0 + 1) ((x1 : Int32).toNatClampNeg)) + x2)) (a0 + 2) ((x1 : Int32).toNatClampNeg)) + x3)) a0 4) : Int32).toNatClampNeg) (((pm_up (pm_up I (a0 + 1) (((I a0 4) : Int32).toNatClampNeg) ((I (a0 + 1) ((x1 : Int32).toNatClampNeg)) + x2)) (a0 + 2) ((((pm_up I (a0 + 1) (((I a0 4) : Int32).toNatClampNeg) ((I (a0 + 1) ((x1 : Int32).toNatClampNeg)) + x2)) a0 4) : Int32).toNatClampNeg) (((pm_up I (a0 + 1) (((I a0 4) : Int32).toNatClampNeg) ((I (a0 + 1) ((x1 : Int32).toNatClampNeg)) + x2)) (a0 + 2) ((x1 : Int32).toNatClampNeg)) + x3)) (a0 + 3) ((x1 : Int32).toNatClampNeg)) - x2)) (a0 + 4) ((x1 : Int32).toNatClampNeg)) - x3)) (a0 + 3) ((x1 : Int32).toNatClampNeg) x2) a0 4 (((pm_up (pm_up (pm_up (pm_up (pm_up I (a0 + 1) (((I a0 4) : Int32).toNatClampNeg) ((I (a0 + 1) ((x1 : Int32).toNatClampNeg)) + x2)) (a0 + 2) ((((pm_up I (a0 + 1) (((I a0 4) : Int32).toNatClampNeg) ((I (a0 + 1) ((x1 : Int32).toNatClampNeg)) + x2)) a0 4) : Int32).toNatClampNeg) (((pm_up I (a0 + 1) (((I a0 4) : Int32).toNatClampNeg) ((I (a0 + 1) ((x1 : Int32).toNatClampNeg)) + x2)) (a0 + 2) ((x1 : Int32).toNatClampNeg)) + x3)) (a0 + 3) ((((pm_up (pm_up I (a0 + 1) (((I a0 4) : Int32).toNatClampNeg) ((I (a0 + 1) ((x1 : Int32).toNatClampNeg)) + x2)) (a0 + 2) ((((pm_up I (a0 + 1) (((I a0 4) : Int32).toNatClampNeg) ((I (a0 + 1) ((x1 : Int32).toNatClampNeg)) + x2)) a0 4) : Int32).toNatClampNeg) (((pm_up I (a0 + 1) (((I a0 4) : Int32).toNatClampNeg) ((I (a0 + 1) ((x1 : Int32).toNatClampNeg)) + x2)) (a0 + 2) ((x1 : Int32).toNatClampNeg)) + x3)) a0 4) : Int32).toNatClampNeg) (((pm_up (pm_up I (a0 + 1) (((I a0 4) : Int32).toNatClampNeg) ((I (a0 + 1) ((x1 : Int32).toNatClampNeg)) + x2)) (a0 + 2) ((((pm_up I (a0 + 1) (((I a0 4) : Int32).toNatClampNeg) ((I (a0 + 1) ((x1 : Int32).toNatClampNeg)) + x2)) a0 4) : Int32).toNatClampNeg) (((pm_up I (a0 + 1) (((I a0 4) : Int32).toNatClampNeg) ((I (a0 + 1) ((x1 : Int32).toNatClampNeg)) + x2)) (a0 + 2) ((x1 : Int32).toNatClampNeg)) + x3)) (a0 + 3) ((x1 : Int32).toNatClampNeg)) - x2)) (a0 + 4) ((((pm_up (pm_up (pm_up I (a0 + 1) (((I a0 4) : Int32).toNatClampNeg) ((I (a0 + 1) ((x1 : Int32).toNatClampNeg)) + x2)) (a0 + 2) ((((pm_up I (a0 + 1) (((I a0 4) : Int32).toNatClampNeg) ((I (a0 + 1) ((x1 : Int32).toNatClampNeg)) + x2)) a0 4) : Int32).toNatClampNeg) (((pm_up I (a0 + 1) (((I a0 4) : Int32).toNatClampNeg) ((I (a0 + 1) ((x1 : Int32).toNatClampNeg)) + x2)) (a0 + 2) ((x1 : Int32).toNatClampNeg)) + x3)) (a0 + 3) ((((pm_up (pm_up I (a0 + 1) (((I a0 4) : Int32).toNatClampNeg) ((I (a0 + 1) ((x1 : Int32).toNatClampNeg)) + x2)) (a0 + 2) ((((pm_up I (a0 + 1) (((I a0 4) : Int32).toNatClampNeg) ((I (a0 + 1) ((x1 : Int32).toNatClampNeg)) + x2)) a0 4) : Int32).toNatClampNeg) (((pm_up I (a0 + 1) (((I a0 4) : Int32).toNatClampNeg) ((I (a0 + 1) ((x1 : Int32).toNatClampNeg)) + x2)) (a0 + 2) ((x1 : Int32).toNatClampNeg)) + x3)) a0 4) : Int32).toNatClampNeg) (((pm_up (pm_up I (a0 + 1) (((I a0 4) : Int32).toNatClampNeg) ((I (a0 + 1) ((x1 : Int32).toNatClampNeg)) + x2)) (a0 + 2) ((((pm_up I (a0 + 1) (((I a0 4) : Int32).toNatClampNeg) ((I (a0 + 1) ((x1 : Int32).toNatClampNeg)) + x2)) a0 4) : Int32).toNatClampNeg) (((pm_up I (a0 + 1) (((I a0 4) : Int32).toNatClampNeg) ((I (a0 + 1) ((x1 : Int32).toNatClampNeg)) + x2)) (a0 + 2) ((x1 : Int32).toNatClampNeg)) + x3)) (a0 + 3) ((x1 : Int32).toNatClampNeg)) - x2)) a0 4) : Int32).toNatClampNeg) (((pm_up (pm_up (pm_up I (a0 + 1) (((I a0 4) : Int32).toNatClampNeg) ((I (a0 + 1) ((x1 : Int32).toNatClampNeg)) + x2)) (a0 + 2) ((((pm_up I (a0 + 1) (((I a0 4) : Int32).toNatClampNeg) ((I (a0 + 1) ((x1 : Int32).toNatClampNeg)) + x2)) a0 4) : Int32).toNatClampNeg) (((pm_up I (a0 + 1) (((I a0 4) : Int32).toNatClampNeg) ((I (a0 + 1) ((x1 : Int32).toNatClampNeg)) + x2)) (a0 + 2) ((x1 : Int32).toNatClampNeg)) + x3)) (a0 + 3) ((((pm_up (pm_up I (a0 + 1) (((I a0 4) : Int32).toNatClampNeg) ((I (a0 + 1) ((x1 : Int32).toNatClampNeg)) + x2)) (a0 + 2) ((((pm_up I (a0 + 1) (((I a0 4) : Int32).toNatClampNeg) ((I (a0 + 1) ((x1 : Int32).toNatClampNeg)) + x2)) a0 4) : Int32).toNatClampNeg) (((pm_up I (a0 + 1) (((I a0 4) : Int32).toNatClampNeg) ((I (a0 + 1) ((x1 : Int32).toNatClampNeg)) + x2)) (a0 + 2) ((x1 : Int32).toNatClampNeg)) + x3)) a0 4) : Int32).toNatClampNeg) (((pm_up (pm_up I (a0 + 1) (((I a0 4) : Int32).toNatClampNeg) ((I (a0 + 1) ((x1 : Int32).toNatClampNeg)) + x2)) (a0 + 2) ((((pm_up I (a0 + 1) (((I a0 4) : Int32).toNatClampNeg) ((I (a0 + 1) ((x1 : Int32).toNatClampNeg)) + x2)) a0 4) : Int32).toNatClampNeg) (((pm_up I (a0 + 1) (((I a0 4) : Int32).toNatClampNeg) ((I (a0 + 1) ((x1 : Int32).toNatClampNeg)) + x2)) (a0 + 2) ((x1 : Int32).toNatClampNeg)) + x3)) (a0 + 3) ((x1 : Int32).toNatClampNeg)) - x2)) (a0 + 4) ((x1 : Int32).toNatClampNeg)) - x3)) (a0 + 3) ((x1 : Int32).toNatClampNeg) x2) a0 4) + (1 : Int32))) J (pm_RT pa pb ga))))) : Px k 176 m_Pi_cutOff 0 [.ref a0, .int x1, .int x2, .int x3] [] (hp I J (pm_RT pa pb ga)) Q := by
  refine x_l 1 rfl rfl rfl ?_
  have h0 := h.1
  have h := h.2
  have h1 := h.1
  have h := h.2
  refine z_gf 4 (.ref (a0 + 1)) rfl h0 rfl h1 ?_
  refine x_l 5 rfl rfl rfl ?_
  have h0 := h.1
  have h := h.2
  refine z_gf 8 (.int (I a0 4)) rfl h0 rfl rfl ?_
  refine x_l 9 rfl rfl rfl ?_
  have h0 := h.1
  have h := h.2
  have h1 := h.1
  have h := h.2
  refine z_gf 12 (.ref (a0 + 1)) rfl h0 rfl h1 ?_
  refine x_l 13 rfl rfl rfl ?_
  have h0 := h.1
  have h := h.2
  have h1 := h.1
  have h := h.2
  refine z_il 14 (pm_sh (a0 + 1)).2 rfl h0 rfl h1 rfl ?_
  refine x_l 15 rfl rfl rfl ?_
  refine x_s 16 rfl rfl rfl ?_
  have h0 := h.1
  have h := h.2
  have h1 := h.1
  have h := h.2
  refine z_is 17 (pm_sh (a0 + 1)).2 rfl h0 rfl h1 rfl ?_
  refine x_l 18 rfl rfl rfl ?_
  have h0 := h.1
  have h := h.2
  have h1 := h.1
  have h := h.2
  refine z_gf 21 (.ref (a0 + 2)) rfl h0 rfl h1 ?_
  refine x_l 22 rfl rfl rfl ?_
  have h0 := h.1
  have h := h.2
  refine z_gf 25 (.int ((pm_up I (a0 + 1) (((I a0 4) : Int32).toNatClampNeg) ((I (a0 + 1) ((x1 : Int32).toNatClampNeg)) + x2)) a0 4)) rfl h0 rfl rfl ?_
  refine x_l 26 rfl rfl rfl ?_
  have h0 := h.1
  have h := h.2
  have h1 := h.1
  have h := h.2
  refine z_gf 29 (.ref (a0 + 2)) rfl h0 rfl h1 ?_
  refine x_l 30 rfl rfl rfl ?_
  have h0 := h.1
  have h := h.2
  have h1 := h.1
  have h := h.2
  refine z_il 31 (pm_sh (a0 + 2)).2 rfl h0 rfl h1 rfl ?_
  refine x_l 32 rfl rfl rfl ?_
  refine x_s 33 rfl rfl rfl ?_
  have h0 := h.1
  have h := h.2
  have h1 := h.1
  have h := h.2
  refine z_is 34 (pm_sh (a0 + 2)).2 rfl h0 rfl h1 rfl ?_
  refine x_l 35 rfl rfl rfl ?_
  have h0 := h.1
  have h := h.2
  have h1 := h.1
  have h := h.2
  refine z_gf 38 (.ref (a0 + 3)) rfl h0 rfl h1 ?_
  refine x_l 39 rfl rfl rfl ?_
  have h0 := h.1
  have h := h.2
  refine z_gf 42 (.int ((pm_up (pm_up I (a0 + 1) (((I a0 4) : Int32).toNatClampNeg) ((I (a0 + 1) ((x1 : Int32).toNatClampNeg)) + x2)) (a0 + 2) ((((pm_up I (a0 + 1) (((I a0 4) : Int32).toNatClampNeg) ((I (a0 + 1) ((x1 : Int32).toNatClampNeg)) + x2)) a0 4) : Int32).toNatClampNeg) (((pm_up I (a0 + 1) (((I a0 4) : Int32).toNatClampNeg) ((I (a0 + 1) ((x1 : Int32).toNatClampNeg)) + x2)) (a0 + 2) ((x1 : Int32).toNatClampNeg)) + x3)) a0 4)) rfl h0 rfl rfl ?_
  refine x_l 43 rfl rfl rfl ?_
  have h0 := h.1
  have h := h.2
  have h1 := h.1
  have h := h.2
  refine z_gf 46 (.ref (a0 + 3)) rfl h0 rfl h1 ?_
  refine x_l 47 rfl rfl rfl ?_
  have h0 := h.1
  have h := h.2
  have h1 := h.1
  have h := h.2
  refine z_il 48 (pm_sh (a0 + 3)).2 rfl h0 rfl h1 rfl ?_
  refine x_l 49 rfl rfl rfl ?_
  refine x_s 50 rfl rfl rfl ?_
  have h0 := h.1
  have h := h.2
  have h1 := h.1
  have h := h.2
  refine z_is 51 (pm_sh (a0 + 3)).2 rfl h0 rfl h1 rfl ?_
  refine x_l 52 rfl rfl rfl ?_
  have h0 := h.1
  have h := h.2
  have h1 := h.1
  have h := h.2
  refine z_gf 55 (.ref (a0 + 4)) rfl h0 rfl h1 ?_
  refine x_l 56 rfl rfl rfl ?_
  have h0 := h.1
  have h := h.2
  refine z_gf 59 (.int ((pm_up (pm_up (pm_up I (a0 + 1) (((I a0 4) : Int32).toNatClampNeg) ((I (a0 + 1) ((x1 : Int32).toNatClampNeg)) + x2)) (a0 + 2) ((((pm_up I (a0 + 1) (((I a0 4) : Int32).toNatClampNeg) ((I (a0 + 1) ((x1 : Int32).toNatClampNeg)) + x2)) a0 4) : Int32).toNatClampNeg) (((pm_up I (a0 + 1) (((I a0 4) : Int32).toNatClampNeg) ((I (a0 + 1) ((x1 : Int32).toNatClampNeg)) + x2)) (a0 + 2) ((x1 : Int32).toNatClampNeg)) + x3)) (a0 + 3) ((((pm_up (pm_up I (a0 + 1) (((I a0 4) : Int32).toNatClampNeg) ((I (a0 + 1) ((x1 : Int32).toNatClampNeg)) + x2)) (a0 + 2) ((((pm_up I (a0 + 1) (((I a0 4) : Int32).toNatClampNeg) ((I (a0 + 1) ((x1 : Int32).toNatClampNeg)) + x2)) a0 4) : Int32).toNatClampNeg) (((pm_up I (a0 + 1) (((I a0 4) : Int32).toNatClampNeg) ((I (a0 + 1) ((x1 : Int32).toNatClampNeg)) + x2)) (a0 + 2) ((x1 : Int32).toNatClampNeg)) + x3)) a0 4) : Int32).toNatClampNeg) (((pm_up (pm_up I (a0 + 1) (((I a0 4) : Int32).toNatClampNeg) ((I (a0 + 1) ((x1 : Int32).toNatClampNeg)) + x2)) (a0 + 2) ((((pm_up I (a0 + 1) (((I a0 4) : Int32).toNatClampNeg) ((I (a0 + 1) ((x1 : Int32).toNatClampNeg)) + x2)) a0 4) : Int32).toNatClampNeg) (((pm_up I (a0 + 1) (((I a0 4) : Int32).toNatClampNeg) ((I (a0 + 1) ((x1 : Int32).toNatClampNeg)) + x2)) (a0 + 2) ((x1 : Int32).toNatClampNeg)) + x3)) (a0 + 3) ((x1 : Int32).toNatClampNeg)) - x2)) a0 4)) rfl h0 rfl rfl ?_
  refine x_l 60 rfl rfl rfl ?_
  have h0 := h.1
  have h := h.2
  have h1 := h.1
  have h := h.2
  refine z_gf 63 (.ref (a0 + 4)) rfl h0 rfl h1 ?_
  refine x_l 64 rfl rfl rfl ?_
  have h0 := h.1
  have h := h.2
  have h1 := h.1
  have h := h.2
  refine z_il 65 (pm_sh (a0 + 4)).2 rfl h0 rfl h1 rfl ?_
  refine x_l 66 rfl rfl rfl ?_
  refine x_s 67 rfl rfl rfl ?_
  have h0 := h.1
  have h := h.2
  have h1 := h.1
  have h := h.2
  refine z_is 68 (pm_sh (a0 + 4)).2 rfl h0 rfl h1 rfl ?_
  refine x_l 69 rfl rfl rfl ?_
  refine x_b 72 rfl rfl rfl (fun c => ?_) (fun c => ?_)
  · have h := h.1 c
    refine x_l 83 rfl rfl rfl ?_
    have h0 := h.1
    have h := h.2
    have h1 := h.1
    have h := h.2
    refine z_gf 86 (.ref (a0 + 4)) rfl h0 rfl h1 ?_
    refine x_l 87 rfl rfl rfl ?_
    refine x_l 88 rfl rfl rfl ?_
    have h0 := h.1
    have h := h.2
    have h1 := h.1
    have h := h.2
    refine z_is 89 (pm_sh (a0 + 4)).2 rfl h0 rfl h1 rfl ?_
    refine x_l 90 rfl rfl rfl ?_
    refine x_s 91 rfl rfl rfl ?_
    have h0 := h.1
    have h := h.2
    refine z_gf 94 (.int ((pm_up (pm_up (pm_up (pm_up (pm_up I (a0 + 1) (((I a0 4) : Int32).toNatClampNeg) ((I (a0 + 1) ((x1 : Int32).toNatClampNeg)) + x2)) (a0 + 2) ((((pm_up I (a0 + 1) (((I a0 4) : Int32).toNatClampNeg) ((I (a0 + 1) ((x1 : Int32).toNatClampNeg)) + x2)) a0 4) : Int32).toNatClampNeg) (((pm_up I (a0 + 1) (((I a0 4) : Int32).toNatClampNeg) ((I (a0 + 1) ((x1 : Int32).toNatClampNeg)) + x2)) (a0 + 2) ((x1 : Int32).toNatClampNeg)) + x3)) (a0 + 3) ((((pm_up (pm_up I (a0 + 1) (((I a0 4) : Int32).toNatClampNeg) ((I (a0 + 1) ((x1 : Int32).toNatClampNeg)) + x2)) (a0 + 2) ((((pm_up I (a0 + 1) (((I a0 4) : Int32).toNatClampNeg) ((I (a0 + 1) ((x1 : Int32).toNatClampNeg)) + x2)) a0 4) : Int32).toNatClampNeg) (((pm_up I (a0 + 1) (((I a0 4) : Int32).toNatClampNeg) ((I (a0 + 1) ((x1 : Int32).toNatClampNeg)) + x2)) (a0 + 2) ((x1 : Int32).toNatClampNeg)) + x3)) a0 4) : Int32).toNatClampNeg) (((pm_up (pm_up I (a0 + 1) (((I a0 4) : Int32).toNatClampNeg) ((I (a0 + 1) ((x1 : Int32).toNatClampNeg)) + x2)) (a0 + 2) ((((pm_up I (a0 + 1) (((I a0 4) : Int32).toNatClampNeg) ((I (a0 + 1) ((x1 : Int32).toNatClampNeg)) + x2)) a0 4) : Int32).toNatClampNeg) (((pm_up I (a0 + 1) (((I a0 4) : Int32).toNatClampNeg) ((I (a0 + 1) ((x1 : Int32).toNatClampNeg)) + x2)) (a0 + 2) ((x1 : Int32).toNatClampNeg)) + x3)) (a0 + 3) ((x1 : Int32).toNatClampNeg)) - x2)) (a0 + 4) ((((pm_up (pm_up (pm_up I (a0 + 1) (((I a0 4) : Int32).toNatClampNeg) ((I (a0 + 1) ((x1 : Int32).toNatClampNeg)) + x2)) (a0 + 2) ((((pm_up I (a0 + 1) (((I a0 4) : Int32).toNatClampNeg) ((I (a0 + 1) ((x1 : Int32).toNatClampNeg)) + x2)) a0 4) : Int32).toNatClampNeg) (((pm_up I (a0 + 1) (((I a0 4) : Int32).toNatClampNeg) ((I (a0 + 1) ((x1 : Int32).toNatClampNeg)) + x2)) (a0 + 2) ((x1 : Int32).toNatClampNeg)) + x3)) (a0 + 3) ((((pm_up (pm_up I (a0 + 1) (((I a0 4) : Int32).toNatClampNeg) ((I (a0 + 1) ((x1 : Int32).toNatClampNeg)) + x2)) (a0 + 2) ((((pm_up I (a0 + 1) (((I a0 4) : Int32).toNatClampNeg) ((I (a0 + 1) ((x1 : Int32).toNatClampNeg)) + x2)) a0 4) : Int32).toNatClampNeg) (((pm_up I (a0 + 1) (((I a0 4) : Int32).toNatClampNeg) ((I (a0 + 1) ((x1 : Int32).toNatClampNeg)) + x2)) (a0 + 2) ((x1 : Int32).toNatClampNeg)) + x3)) a0 4) : Int32).toNatClampNeg) (((pm_up (pm_up I (a0 + 1) (((I a0 4) : Int32).toNatClampNeg) ((I (a0 + 1) ((x1 : Int32).toNatClampNeg)) + x2)) (a0 + 2) ((((pm_up I (a0 + 1) (((I a0 4) : Int32).toNatClampNeg) ((I (a0 + 1) ((x1 : Int32).toNatClampNeg)) + x2)) a0 4) : Int32).toNatClampNeg) (((pm_up I (a0 + 1) (((I a0 4) : Int32).toNatClampNeg) ((I (a0 + 1) ((x1 : Int32).toNatClampNeg)) + x2)) (a0 + 2) ((x1 : Int32).toNatClampNeg)) + x3)) (a0 + 3) ((x1 : Int32).toNatClampNeg)) - x2)) a0 4) : Int32).toNatClampNeg) (((pm_up (pm_up (pm_up I (a0 + 1) (((I a0 4) : Int32).toNatClampNeg) ((I (a0 + 1) ((x1 : Int32).toNatClampNeg)) + x2)) (a0 + 2) ((((pm_up I (a0 + 1) (((I a0 4) : Int32).toNatClampNeg) ((I (a0 + 1) ((x1 : Int32).toNatClampNeg)) + x2)) a0 4) : Int32).toNatClampNeg) (((pm_up I (a0 + 1) (((I a0 4) : Int32).toNatClampNeg) ((I (a0 + 1) ((x1 : Int32).toNatClampNeg)) + x2)) (a0 + 2) ((x1 : Int32).toNatClampNeg)) + x3)) (a0 + 3) ((((pm_up (pm_up I (a0 + 1) (((I a0 4) : Int32).toNatClampNeg) ((I (a0 + 1) ((x1 : Int32).toNatClampNeg)) + x2)) (a0 + 2) ((((pm_up I (a0 + 1) (((I a0 4) : Int32).toNatClampNeg) ((I (a0 + 1) ((x1 : Int32).toNatClampNeg)) + x2)) a0 4) : Int32).toNatClampNeg) (((pm_up I (a0 + 1) (((I a0 4) : Int32).toNatClampNeg) ((I (a0 + 1) ((x1 : Int32).toNatClampNeg)) + x2)) (a0 + 2) ((x1 : Int32).toNatClampNeg)) + x3)) a0 4) : Int32).toNatClampNeg) (((pm_up (pm_up I (a0 + 1) (((I a0 4) : Int32).toNatClampNeg) ((I (a0 + 1) ((x1 : Int32).toNatClampNeg)) + x2)) (a0 + 2) ((((pm_up I (a0 + 1) (((I a0 4) : Int32).toNatClampNeg) ((I (a0 + 1) ((x1 : Int32).toNatClampNeg)) + x2)) a0 4) : Int32).toNatClampNeg) (((pm_up I (a0 + 1) (((I a0 4) : Int32).toNatClampNeg) ((I (a0 + 1) ((x1 : Int32).toNatClampNeg)) + x2)) (a0 + 2) ((x1 : Int32).toNatClampNeg)) + x3)) (a0 + 3) ((x1 : Int32).toNatClampNeg)) - x2)) (a0 + 4) ((x1 : Int32).toNatClampNeg)) - x3)) (a0 + 4) ((x1 : Int32).toNatClampNeg) x3) a0 4)) rfl h0 rfl rfl ?_
    refine z_k 95 1 rfl (by decide) rfl ?_
    refine x_s 96 rfl rfl rfl ?_
    have h0 := h.1
    have h := h.2
    refine z_pi 99 rfl (Or.inl rfl) rfl (fun z => by cases z) h0 rfl ?_
    exact x_rv rfl rfl h
  · have h := h.2 c
    refine x_l 73 rfl rfl rfl ?_
    have h0 := h.1
    have h := h.2
    have h1 := h.1
    have h := h.2
    refine z_gf 76 (.ref (a0 + 3)) rfl h0 rfl h1 ?_
    refine x_l 77 rfl rfl rfl ?_
    refine x_l 78 rfl rfl rfl ?_
    have h0 := h.1
    have h := h.2
    have h1 := h.1
    have h := h.2
    refine z_is 79 (pm_sh (a0 + 3)).2 rfl h0 rfl h1 rfl ?_
    refine x_g rfl ?_
    refine x_l 90 rfl rfl rfl ?_
    refine x_s 91 rfl rfl rfl ?_
    have h0 := h.1
    have h := h.2
    refine z_gf 94 (.int ((pm_up (pm_up (pm_up (pm_up (pm_up I (a0 + 1) (((I a0 4) : Int32).toNatClampNeg) ((I (a0 + 1) ((x1 : Int32).toNatClampNeg)) + x2)) (a0 + 2) ((((pm_up I (a0 + 1) (((I a0 4) : Int32).toNatClampNeg) ((I (a0 + 1) ((x1 : Int32).toNatClampNeg)) + x2)) a0 4) : Int32).toNatClampNeg) (((pm_up I (a0 + 1) (((I a0 4) : Int32).toNatClampNeg) ((I (a0 + 1) ((x1 : Int32).toNatClampNeg)) + x2)) (a0 + 2) ((x1 : Int32).toNatClampNeg)) + x3)) (a0 + 3) ((((pm_up (pm_up I (a0 + 1) (((I a0 4) : Int32).toNatClampNeg) ((I (a0 + 1) ((x1 : Int32).toNatClampNeg)) + x2)) (a0 + 2) ((((pm_up I (a0 + 1) (((I a0 4) : Int32).toNatClampNeg) ((I (a0 + 1) ((x1 : Int32).toNatClampNeg)) + x2)) a0 4) : Int32).toNatClampNeg) (((pm_up I (a0 + 1) (((I a0 4) : Int32).toNatClampNeg) ((I (a0 + 1) ((x1 : Int32).toNatClampNeg)) + x2)) (a0 + 2) ((x1 : Int32).toNatClampNeg)) + x3)) a0 4) : Int32).toNatClampNeg) (((pm_up (pm_up I (a0 + 1) (((I a0 4) : Int32).toNatClampNeg) ((I (a0 + 1) ((x1 : Int32).toNatClampNeg)) + x2)) (a0 + 2) ((((pm_up I (a0 + 1) (((I a0 4) : Int32).toNatClampNeg) ((I (a0 + 1) ((x1 : Int32).toNatClampNeg)) + x2)) a0 4) : Int32).toNatClampNeg) (((pm_up I (a0 + 1) (((I a0 4) : Int32).toNatClampNeg) ((I (a0 + 1) ((x1 : Int32).toNatClampNeg)) + x2)) (a0 + 2) ((x1 : Int32).toNatClampNeg)) + x3)) (a0 + 3) ((x1 : Int32).toNatClampNeg)) - x2)) (a0 + 4) ((((pm_up (pm_up (pm_up I (a0 + 1) (((I a0 4) : Int32).toNatClampNeg) ((I (a0 + 1) ((x1 : Int32).toNatClampNeg)) + x2)) (a0 + 2) ((((pm_up I (a0 + 1) (((I a0 4) : Int32).toNatClampNeg) ((I (a0 + 1) ((x1 : Int32).toNatClampNeg)) + x2)) a0 4) : Int32).toNatClampNeg) (((pm_up I (a0 + 1) (((I a0 4) : Int32).toNatClampNeg) ((I (a0 + 1) ((x1 : Int32).toNatClampNeg)) + x2)) (a0 + 2) ((x1 : Int32).toNatClampNeg)) + x3)) (a0 + 3) ((((pm_up (pm_up I (a0 + 1) (((I a0 4) : Int32).toNatClampNeg) ((I (a0 + 1) ((x1 : Int32).toNatClampNeg)) + x2)) (a0 + 2) ((((pm_up I (a0 + 1) (((I a0 4) : Int32).toNatClampNeg) ((I (a0 + 1) ((x1 : Int32).toNatClampNeg)) + x2)) a0 4) : Int32).toNatClampNeg) (((pm_up I (a0 + 1) (((I a0 4) : Int32).toNatClampNeg) ((I (a0 + 1) ((x1 : Int32).toNatClampNeg)) + x2)) (a0 + 2) ((x1 : Int32).toNatClampNeg)) + x3)) a0 4) : Int32).toNatClampNeg) (((pm_up (pm_up I (a0 + 1) (((I a0 4) : Int32).toNatClampNeg) ((I (a0 + 1) ((x1 : Int32).toNatClampNeg)) + x2)) (a0 + 2) ((((pm_up I (a0 + 1) (((I a0 4) : Int32).toNatClampNeg) ((I (a0 + 1) ((x1 : Int32).toNatClampNeg)) + x2)) a0 4) : Int32).toNatClampNeg) (((pm_up I (a0 + 1) (((I a0 4) : Int32).toNatClampNeg) ((I (a0 + 1) ((x1 : Int32).toNatClampNeg)) + x2)) (a0 + 2) ((x1 : Int32).toNatClampNeg)) + x3)) (a0 + 3) ((x1 : Int32).toNatClampNeg)) - x2)) a0 4) : Int32).toNatClampNeg) (((pm_up (pm_up (pm_up I (a0 + 1) (((I a0 4) : Int32).toNatClampNeg) ((I (a0 + 1) ((x1 : Int32).toNatClampNeg)) + x2)) (a0 + 2) ((((pm_up I (a0 + 1) (((I a0 4) : Int32).toNatClampNeg) ((I (a0 + 1) ((x1 : Int32).toNatClampNeg)) + x2)) a0 4) : Int32).toNatClampNeg) (((pm_up I (a0 + 1) (((I a0 4) : Int32).toNatClampNeg) ((I (a0 + 1) ((x1 : Int32).toNatClampNeg)) + x2)) (a0 + 2) ((x1 : Int32).toNatClampNeg)) + x3)) (a0 + 3) ((((pm_up (pm_up I (a0 + 1) (((I a0 4) : Int32).toNatClampNeg) ((I (a0 + 1) ((x1 : Int32).toNatClampNeg)) + x2)) (a0 + 2) ((((pm_up I (a0 + 1) (((I a0 4) : Int32).toNatClampNeg) ((I (a0 + 1) ((x1 : Int32).toNatClampNeg)) + x2)) a0 4) : Int32).toNatClampNeg) (((pm_up I (a0 + 1) (((I a0 4) : Int32).toNatClampNeg) ((I (a0 + 1) ((x1 : Int32).toNatClampNeg)) + x2)) (a0 + 2) ((x1 : Int32).toNatClampNeg)) + x3)) a0 4) : Int32).toNatClampNeg) (((pm_up (pm_up I (a0 + 1) (((I a0 4) : Int32).toNatClampNeg) ((I (a0 + 1) ((x1 : Int32).toNatClampNeg)) + x2)) (a0 + 2) ((((pm_up I (a0 + 1) (((I a0 4) : Int32).toNatClampNeg) ((I (a0 + 1) ((x1 : Int32).toNatClampNeg)) + x2)) a0 4) : Int32).toNatClampNeg) (((pm_up I (a0 + 1) (((I a0 4) : Int32).toNatClampNeg) ((I (a0 + 1) ((x1 : Int32).toNatClampNeg)) + x2)) (a0 + 2) ((x1 : Int32).toNatClampNeg)) + x3)) (a0 + 3) ((x1 : Int32).toNatClampNeg)) - x2)) (a0 + 4) ((x1 : Int32).toNatClampNeg)) - x3)) (a0 + 3) ((x1 : Int32).toNatClampNeg) x2) a0 4)) rfl h0 rfl rfl ?_
    refine z_k 95 1 rfl (by decide) rfl ?_
    refine x_s 96 rfl rfl rfl ?_
    have h0 := h.1
    have h := h.2
    refine z_pi 99 rfl (Or.inl rfl) rfl (fun z => by cases z) h0 rfl ?_
    exact x_rv rfl rfl h

theorem bk_Pi_tell_0 {k : Nat} {pa pb : Nat} {ga : Nat → Nat} {I : pm_II} {J : pm_JJ} {Q : Option Value → pm_H → Prop} {a0 : Nat} {x1 : Int32} {x2 : Int32} (h : pm_ob a0 3 ∧ Px k 176 m_Pi_has 0 [.ref a0, .int x1] [] (hp I J (pm_RT pa pb ga)) (fun r h' => h'.1 = 176 ∧ Px (k + 1) 176 m_Pi_tell 5 [.ref a0, .int x1, .int x2] (r.toList ++ []) h' Q)) : Px (k + 1) 176 m_Pi_tell 0 [.ref a0, .int x1, .int x2] [] (hp I J (pm_RT pa pb ga)) Q := by
  refine x_l 1 rfl rfl rfl ?_
  refine x_l 2 rfl rfl rfl ?_
  have h0 := h.1
  have h := h.2
  exact z_cv (As := [.int x1]) (rest := []) (b := a0) rfl at_Pi_has rfl rfl (Nat.le_of_ble_eq_true rfl) (Nat.le_of_ble_eq_true rfl) h0 (by decide) rfl h

theorem bk_Pi_tell_5 {k : Nat} {pa pb : Nat} {ga : Nat → Nat} {I : pm_II} {J : pm_JJ} {Q : Option Value → pm_H → Prop} {a0 : Nat} {x1 : Int32} {x2 : Int32} {s0 : Int32} (h : ((¬ s0 = 0 → ((x2 = nI 0 → pm_ob a0 3 ∧ (pm_RT pa pb ga) a0 0 = .ref (a0 + 1) ∧ pm_ob (a0 + 1) 100 ∧ vp_in x1 (pm_sh (a0 + 1)).2 ∧ Q (some (.int (I (a0 + 1) ((x1 : Int32).toNatClampNeg)))) (hp I J (pm_RT pa pb ga))) ∧ (x2 = nI 1 → pm_ob a0 3 ∧ (pm_RT pa pb ga) a0 1 = .ref (a0 + 2) ∧ pm_ob (a0 + 2) 100 ∧ vp_in x1 (pm_sh (a0 + 2)).2 ∧ Q (some (.int (I (a0 + 2) ((x1 : Int32).toNatClampNeg)))) (hp I J (pm_RT pa pb ga))) ∧ (x2 = nI 2 → pm_ob a0 3 ∧ (pm_RT pa pb ga) a0 2 = .ref (a0 + 3) ∧ pm_ob (a0 + 3) 100 ∧ vp_in x1 (pm_sh (a0 + 3)).2 ∧ Q (some (.int (I (a0 + 3) ((x1 : Int32).toNatClampNeg)))) (hp I J (pm_RT pa pb ga))) ∧ (x2 = nI 3 → pm_ob a0 3 ∧ (pm_RT pa pb ga) a0 3 = .ref (a0 + 4) ∧ pm_ob (a0 + 4) 100 ∧ vp_in x1 (pm_sh (a0 + 4)).2 ∧ Q (some (.int (I (a0 + 4) ((x1 : Int32).toNatClampNeg)))) (hp I J (pm_RT pa pb ga))) ∧ ((x2 < 0 ∨ nI 3 < x2) → Q (some (.int (-1))) (hp I J (pm_RT pa pb ga))))) ∧ (¬ (¬ s0 = 0) → Q (some (.int (-1))) (hp I J (pm_RT pa pb ga))))) : Px (k + 1) 176 m_Pi_tell 5 [.ref a0, .int x1, .int x2] [.int s0] (hp I J (pm_RT pa pb ga)) Q := by
  refine x_b 8 rfl rfl rfl (fun c => ?_) (fun c => ?_)
  · have h := h.1 c
    refine x_l 11 rfl rfl rfl ?_
    refine z_sw 3 (dt := 68) rfl rfl (by decide) (fun i hi e => ?_) (fun c => ?_)
    · match i, hi with
      | 0, _ =>
        refine ⟨_, 40, rfl, rfl, ?_⟩
        have h := h.1 e
        refine x_l 41 rfl rfl rfl ?_
        have h0 := h.1
        have h := h.2
        have h1 := h.1
        have h := h.2
        refine z_gf 44 (.ref (a0 + 1)) rfl h0 rfl h1 ?_
        refine x_l 45 rfl rfl rfl ?_
        have h0 := h.1
        have h := h.2
        have h1 := h.1
        have h := h.2
        refine z_il 46 (pm_sh (a0 + 1)).2 rfl h0 rfl h1 rfl ?_
        exact x_ri rfl (Or.inl rfl) h
      | 1, _ =>
        refine ⟨_, 47, rfl, rfl, ?_⟩
        have h := h.2.1 e
        refine x_l 48 rfl rfl rfl ?_
        have h0 := h.1
        have h := h.2
        have h1 := h.1
        have h := h.2
        refine z_gf 51 (.ref (a0 + 2)) rfl h0 rfl h1 ?_
        refine x_l 52 rfl rfl rfl ?_
        have h0 := h.1
        have h := h.2
        have h1 := h.1
        have h := h.2
        refine z_il 53 (pm_sh (a0 + 2)).2 rfl h0 rfl h1 rfl ?_
        exact x_ri rfl (Or.inl rfl) h
      | 2, _ =>
        refine ⟨_, 54, rfl, rfl, ?_⟩
        have h := h.2.2.1 e
        refine x_l 55 rfl rfl rfl ?_
        have h0 := h.1
        have h := h.2
        have h1 := h.1
        have h := h.2
        refine z_gf 58 (.ref (a0 + 3)) rfl h0 rfl h1 ?_
        refine x_l 59 rfl rfl rfl ?_
        have h0 := h.1
        have h := h.2
        have h1 := h.1
        have h := h.2
        refine z_il 60 (pm_sh (a0 + 3)).2 rfl h0 rfl h1 rfl ?_
        exact x_ri rfl (Or.inl rfl) h
      | 3, _ =>
        refine ⟨_, 61, rfl, rfl, ?_⟩
        have h := h.2.2.2.1 e
        refine x_l 62 rfl rfl rfl ?_
        have h0 := h.1
        have h := h.2
        have h1 := h.1
        have h := h.2
        refine z_gf 65 (.ref (a0 + 4)) rfl h0 rfl h1 ?_
        refine x_l 66 rfl rfl rfl ?_
        have h0 := h.1
        have h := h.2
        have h1 := h.1
        have h := h.2
        refine z_il 67 (pm_sh (a0 + 4)).2 rfl h0 rfl h1 rfl ?_
        exact x_ri rfl (Or.inl rfl) h
      | n + 4, hi => exact absurd hi (by omega)
    · have h := h.2.2.2.2 c
      refine z_k 69 (-1) rfl (by decide) rfl ?_
      exact x_ri rfl (Or.inl rfl) h
  · have h := h.2 c
    refine z_k 9 (-1) rfl (by decide) rfl ?_
    exact x_ri rfl (Or.inl rfl) h

theorem bk_Pi_pieceAt_0 {k : Nat} {pa pb : Nat} {ga : Nat → Nat} {I : pm_II} {J : pm_JJ} {Q : Option Value → pm_H → Prop} {a0 : Nat} {x1 : Int32} {x2 : Int32} (h : Px k 176 m_Pi_pieceAt 2 [.ref a0, .int x1, .int x2, .int 0, .null] [] (hp I J (pm_RT pa pb ga)) Q) : Px k 176 m_Pi_pieceAt 0 [.ref a0, .int x1, .int x2, .null, .null] [] (hp I J (pm_RT pa pb ga)) Q := by
  refine z_k 1 0 rfl (by decide) rfl ?_
  refine x_t 2 rfl rfl rfl ?_
  exact h

theorem bk_Pi_pieceAt_2 {k : Nat} {pa pb : Nat} {ga : Nat → Nat} {I : pm_II} {J : pm_JJ} {Q : Option Value → pm_H → Prop} {a0 : Nat} {x1 : Int32} {x2 : Int32} {x3 : Int32} (h : pm_ob a0 3 ∧ (((I a0 4) ≤ x3 → Px k 176 m_Pi_pieceAt 90 [.ref a0, .int x1, .int x2, .int x3, .null] [] (hp I J (pm_RT pa pb ga)) Q) ∧ (¬ ((I a0 4) ≤ x3) → ((30 < x3 → Px k 176 m_Pi_pieceAt 90 [.ref a0, .int x1, .int x2, .int x3, .null] [] (hp I J (pm_RT pa pb ga)) Q) ∧ (¬ (30 < x3) → pm_ob a0 3 ∧ (pm_RT pa pb ga) a0 0 = .ref (a0 + 1) ∧ pm_ob (a0 + 1) 100 ∧ vp_in x3 (pm_sh (a0 + 1)).2 ∧ ((x1 < (I (a0 + 1) ((x3 : Int32).toNatClampNeg)) → Px k 176 m_Pi_pieceAt 48 [.ref a0, .int x1, .int x2, .int x3, .null] [.int 0] (hp I J (pm_RT pa pb ga)) Q) ∧ (¬ (x1 < (I (a0 + 1) ((x3 : Int32).toNatClampNeg))) → pm_ob a0 3 ∧ (pm_RT pa pb ga) a0 0 = .ref (a0 + 1) ∧ pm_ob (a0 + 1) 100 ∧ vp_in x3 (pm_sh (a0 + 1)).2 ∧ pm_ob a0 3 ∧ (pm_RT pa pb ga) a0 2 = .ref (a0 + 3) ∧ pm_ob (a0 + 3) 100 ∧ vp_in x3 (pm_sh (a0 + 3)).2 ∧ ((((I (a0 + 1) ((x3 : Int32).toNatClampNeg)) + (I (a0 + 3) ((x3 : Int32).toNatClampNeg))) ≤ x1 → Px k 176 m_Pi_pieceAt 48 [.ref a0, .int x1, .int x2, .int x3, .null] [.int 0] (hp I J (pm_RT pa pb ga)) Q) ∧ (¬ (((I (a0 + 1) ((x3 : Int32).toNatClampNeg)) + (I (a0 + 3) ((x3 : Int32).toNatClampNeg))) ≤ x1) → Px k 176 m_Pi_pieceAt 48 [.ref a0, .int x1, .int x2, .int x3, .null] [.int 1] (hp I J (pm_RT pa pb ga)) Q))))))))) : Px k 176 m_Pi_pieceAt 2 [.ref a0, .int x1, .int x2, .int x3, .null] [] (hp I J (pm_RT pa pb ga)) Q := by
  refine x_l 3 rfl rfl rfl ?_
  refine x_l 4 rfl rfl rfl ?_
  have h0 := h.1
  have h := h.2
  refine z_gf 7 (.int (I a0 4)) rfl h0 rfl rfl ?_
  refine x_b 10 rfl rfl rfl (fun c => ?_) (fun c => ?_)
  · have h := h.1 c
    exact h
  · have h := h.2 c
    refine x_l 11 rfl rfl rfl ?_
    refine z_k 13 30 rfl (by decide) rfl ?_
    refine x_b 16 rfl rfl rfl (fun c => ?_) (fun c => ?_)
    · have h := h.1 c
      exact h
    · have h := h.2 c
      refine x_l 17 rfl rfl rfl ?_
      refine x_l 18 rfl rfl rfl ?_
      have h0 := h.1
      have h := h.2
      have h1 := h.1
      have h := h.2
      refine z_gf 21 (.ref (a0 + 1)) rfl h0 rfl h1 ?_
      refine x_l 22 rfl rfl rfl ?_
      have h0 := h.1
      have h := h.2
      have h1 := h.1
      have h := h.2
      refine z_il 23 (pm_sh (a0 + 1)).2 rfl h0 rfl h1 rfl ?_
      refine x_b 26 rfl rfl rfl (fun c => ?_) (fun c => ?_)
      · have h := h.1 c
        refine z_k 48 0 rfl (by decide) rfl ?_
        exact h
      · have h := h.2 c
        refine x_l 27 rfl rfl rfl ?_
        refine x_l 28 rfl rfl rfl ?_
        have h0 := h.1
        have h := h.2
        have h1 := h.1
        have h := h.2
        refine z_gf 31 (.ref (a0 + 1)) rfl h0 rfl h1 ?_
        refine x_l 32 rfl rfl rfl ?_
        have h0 := h.1
        have h := h.2
        have h1 := h.1
        have h := h.2
        refine z_il 33 (pm_sh (a0 + 1)).2 rfl h0 rfl h1 rfl ?_
        refine x_l 34 rfl rfl rfl ?_
        have h0 := h.1
        have h := h.2
        have h1 := h.1
        have h := h.2
        refine z_gf 37 (.ref (a0 + 3)) rfl h0 rfl h1 ?_
        refine x_l 38 rfl rfl rfl ?_
        have h0 := h.1
        have h := h.2
        have h1 := h.1
        have h := h.2
        refine z_il 39 (pm_sh (a0 + 3)).2 rfl h0 rfl h1 rfl ?_
        refine x_s 40 rfl rfl rfl ?_
        refine x_b 43 rfl rfl rfl (fun c => ?_) (fun c => ?_)
        · have h := h.1 c
          refine z_k 48 0 rfl (by decide) rfl ?_
          exact h
        · have h := h.2 c
          refine z_k 44 1 rfl (by decide) rfl ?_
          refine x_g rfl ?_
          exact h

theorem bk_Pi_pieceAt_48 {k : Nat} {pa pb : Nat} {ga : Nat → Nat} {I : pm_II} {J : pm_JJ} {Q : Option Value → pm_H → Prop} {a0 : Nat} {x1 : Int32} {x2 : Int32} {x3 : Int32} {s0 : Int32} (h : ((s0 = 0 → Px k 176 m_Pi_pieceAt 2 [.ref a0, .int x1, .int x2, .int (x3 + Int32.ofInt 1), .int s0] [] (hp I J (pm_RT pa pb ga)) Q) ∧ (¬ (s0 = 0) → pm_ob a0 3 ∧ (pm_RT pa pb ga) a0 1 = .ref (a0 + 2) ∧ pm_ob (a0 + 2) 100 ∧ vp_in x3 (pm_sh (a0 + 2)).2 ∧ ((x2 < (I (a0 + 2) ((x3 : Int32).toNatClampNeg)) → Px k 176 m_Pi_pieceAt 2 [.ref a0, .int x1, .int x2, .int (x3 + Int32.ofInt 1), .int s0] [] (hp I J (pm_RT pa pb ga)) Q) ∧ (¬ (x2 < (I (a0 + 2) ((x3 : Int32).toNatClampNeg))) → pm_ob a0 3 ∧ (pm_RT pa pb ga) a0 1 = .ref (a0 + 2) ∧ pm_ob (a0 + 2) 100 ∧ vp_in x3 (pm_sh (a0 + 2)).2 ∧ pm_ob a0 3 ∧ (pm_RT pa pb ga) a0 3 = .ref (a0 + 4) ∧ pm_ob (a0 + 4) 100 ∧ vp_in x3 (pm_sh (a0 + 4)).2 ∧ ((((I (a0 + 2) ((x3 : Int32).toNatClampNeg)) + (I (a0 + 4) ((x3 : Int32).toNatClampNeg))) ≤ x2 → Px k 176 m_Pi_pieceAt 2 [.ref a0, .int x1, .int x2, .int (x3 + Int32.ofInt 1), .int s0] [] (hp I J (pm_RT pa pb ga)) Q) ∧ (¬ (((I (a0 + 2) ((x3 : Int32).toNatClampNeg)) + (I (a0 + 4) ((x3 : Int32).toNatClampNeg))) ≤ x2) → Q (some (.int x3)) (hp I J (pm_RT pa pb ga))))))))) : Px k 176 m_Pi_pieceAt 48 [.ref a0, .int x1, .int x2, .int x3, .null] [.int s0] (hp I J (pm_RT pa pb ga)) Q := by
  refine x_t 50 rfl rfl rfl ?_
  refine x_l 52 rfl rfl rfl ?_
  refine x_b 55 rfl rfl rfl (fun c => ?_) (fun c => ?_)
  · have h := h.1 c
    refine x_t 87 rfl rfl rfl ?_
    refine x_g rfl ?_
    exact h
  · have h := h.2 c
    refine x_l 56 rfl rfl rfl ?_
    refine x_l 57 rfl rfl rfl ?_
    have h0 := h.1
    have h := h.2
    have h1 := h.1
    have h := h.2
    refine z_gf 60 (.ref (a0 + 2)) rfl h0 rfl h1 ?_
    refine x_l 61 rfl rfl rfl ?_
    have h0 := h.1
    have h := h.2
    have h1 := h.1
    have h := h.2
    refine z_il 62 (pm_sh (a0 + 2)).2 rfl h0 rfl h1 rfl ?_
    refine x_b 65 rfl rfl rfl (fun c => ?_) (fun c => ?_)
    · have h := h.1 c
      refine x_t 87 rfl rfl rfl ?_
      refine x_g rfl ?_
      exact h
    · have h := h.2 c
      refine x_l 66 rfl rfl rfl ?_
      refine x_l 67 rfl rfl rfl ?_
      have h0 := h.1
      have h := h.2
      have h1 := h.1
      have h := h.2
      refine z_gf 70 (.ref (a0 + 2)) rfl h0 rfl h1 ?_
      refine x_l 71 rfl rfl rfl ?_
      have h0 := h.1
      have h := h.2
      have h1 := h.1
      have h := h.2
      refine z_il 72 (pm_sh (a0 + 2)).2 rfl h0 rfl h1 rfl ?_
      refine x_l 73 rfl rfl rfl ?_
      have h0 := h.1
      have h := h.2
      have h1 := h.1
      have h := h.2
      refine z_gf 76 (.ref (a0 + 4)) rfl h0 rfl h1 ?_
      refine x_l 77 rfl rfl rfl ?_
      have h0 := h.1
      have h := h.2
      have h1 := h.1
      have h := h.2
      refine z_il 78 (pm_sh (a0 + 4)).2 rfl h0 rfl h1 rfl ?_
      refine x_s 79 rfl rfl rfl ?_
      refine x_b 82 rfl rfl rfl (fun c => ?_) (fun c => ?_)
      · have h := h.1 c
        refine x_t 87 rfl rfl rfl ?_
        refine x_g rfl ?_
        exact h
      · have h := h.2 c
        refine x_l 83 rfl rfl rfl ?_
        exact x_ri rfl (Or.inl rfl) h

theorem bk_Pi_pieceAt_90 {k : Nat} {pa pb : Nat} {ga : Nat → Nat} {I : pm_II} {J : pm_JJ} {Q : Option Value → pm_H → Prop} {a0 : Nat} {x1 : Int32} {x2 : Int32} {x3 : Int32} (h : Q (some (.int (-1))) (hp I J (pm_RT pa pb ga))) : Px k 176 m_Pi_pieceAt 90 [.ref a0, .int x1, .int x2, .int x3, .null] [] (hp I J (pm_RT pa pb ga)) Q := by
  refine z_k 91 (-1) rfl (by decide) rfl ?_
  exact x_ri rfl (Or.inl rfl) h

theorem bk_Ty_linesStanding_0 {k : Nat} {pa pb : Nat} {ga : Nat → Nat} {I : pm_II} {J : pm_JJ} {Q : Option Value → pm_H → Prop} (h : Q (some (.int (I 48 9))) (hp I J (pm_RT pa pb ga))) : Px k 176 m_Ty_linesStanding 0 [.ref 48] [] (hp I J (pm_RT pa pb ga)) Q := by
  refine x_l 1 rfl rfl rfl ?_
  refine z_gf 4 (.int (I 48 9)) rfl ⟨rfl, rfl, rfl⟩ rfl rfl ?_
  exact x_ri rfl (Or.inl rfl) h

theorem bk_Pi_howMany_0 {k : Nat} {pa pb : Nat} {ga : Nat → Nat} {I : pm_II} {J : pm_JJ} {Q : Option Value → pm_H → Prop} {a0 : Nat} (h : pm_ob a0 3 ∧ Q (some (.int (I a0 4))) (hp I J (pm_RT pa pb ga))) : Px k 176 m_Pi_howMany 0 [.ref a0] [] (hp I J (pm_RT pa pb ga)) Q := by
  refine x_l 1 rfl rfl rfl ?_
  have h0 := h.1
  have h := h.2
  refine z_gf 4 (.int (I a0 4)) rfl h0 rfl rfl ?_
  exact x_ri rfl (Or.inl rfl) h
