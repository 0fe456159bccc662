theorem bk_Mo_inked_0 {k : Nat} {pa pb : Nat} {ga : Nat → Nat} {I : pm_II} {J : pm_JJ} {Q : Option Value → pm_H → Prop} {x1 : Int32} {x2 : Int32} (h : Px k 176 m_Jm_floorDiv_JJ 0 [.long (((J 120 46) + (((16 : Int32) * x1) : Int32).toInt64) - (J 120 47)), .null, .long (Int64.ofNat 3), .null, .null, .null] [] (hp I (pm_up J 120 46 ((J 120 46) + (((16 : Int32) * x1) : Int32).toInt64)) (pm_RT pa pb ga)) (fun r h' => h'.1 = 176 ∧ Px (k + 1) 176 m_Mo_inked 29 [.ref 120, .int x1, .int x2, .null, .null, .null, .null] (r.toList ++ []) h' Q)) : Px (k + 1) 176 m_Mo_inked 0 [.ref 120, .int x1, .int x2, .null, .null, .null, .null] [] (hp I J (pm_RT pa pb ga)) Q := by
  refine x_l 1 rfl rfl rfl ?_
  refine x_s 2 rfl rfl rfl ?_
  refine z_gf 5 (.long (J 120 46)) rfl ⟨rfl, rfl, rfl⟩ rfl rfl ?_
  refine z_k 7 16 rfl (by decide) rfl ?_
  refine x_l 8 rfl rfl rfl ?_
  refine x_s 9 rfl rfl rfl ?_
  refine x_s 10 rfl rfl rfl ?_
  refine x_s 11 rfl rfl rfl ?_
  refine z_pj 14 rfl rfl ⟨rfl, rfl, rfl⟩ rfl ?_
  refine x_l 15 rfl rfl rfl ?_
  refine z_gf 18 (.long ((J 120 46) + (((16 : Int32) * x1) : Int32).toInt64)) rfl ⟨rfl, rfl, rfl⟩ rfl rfl ?_
  refine x_l 19 rfl rfl rfl ?_
  refine z_gf 22 (.long (J 120 47)) rfl ⟨rfl, rfl, rfl⟩ rfl rfl ?_
  refine x_s 23 rfl rfl rfl ?_
  refine x_lj 26 rfl rfl ?_
  exact z_cs (As := [.long (((J 120 46) + (((16 : Int32) * x1) : Int32).toInt64) - (J 120 47)), .long (Int64.ofNat 3)]) (rest := []) rfl at_Jm_floorDiv_JJ rfl rfl (Nat.le_of_ble_eq_true rfl) (Nat.le_of_ble_eq_true rfl) rfl h

theorem bk_Mo_inked_29 {k : Nat} {pa pb : Nat} {ga : Nat → Nat} {I : pm_II} {J : pm_JJ} {Q : Option Value → pm_H → Prop} {x1 : Int32} {x2 : Int32} {w0 : Int64} (h : vp_in x2 8 ∧ ¬ (I 120 33) = 0 ∧ Q (some (.long ((((J 120 47) + w0) * (((I 140 ((x2 : Int32).toNatClampNeg)) / (I 120 33)) : Int32).toInt64) / (Int64.ofNat 512)))) (hp I (pm_up (pm_up (pm_up J 120 46 ((J 120 46) - w0)) 120 47 ((J 120 47) + w0)) 120 47 (((J 120 47) + w0) - ((((J 120 47) + w0) * (((I 140 ((x2 : Int32).toNatClampNeg)) / (I 120 33)) : Int32).toInt64) / (Int64.ofNat 512)))) (pm_RT pa pb ga))) : Px (k + 1) 176 m_Mo_inked 29 [.ref 120, .int x1, .int x2, .null, .null, .null, .null] [.long w0] (hp I J (pm_RT pa pb ga)) Q := by
  refine x_t 30 rfl rfl rfl ?_
  refine x_l 31 rfl rfl rfl ?_
  refine x_s 32 rfl rfl rfl ?_
  refine z_gf 35 (.long (J 120 46)) rfl ⟨rfl, rfl, rfl⟩ rfl rfl ?_
  refine x_l 36 rfl rfl rfl ?_
  refine x_s 37 rfl rfl rfl ?_
  refine z_pj 40 rfl rfl ⟨rfl, rfl, rfl⟩ rfl ?_
  refine x_l 41 rfl rfl rfl ?_
  refine x_s 42 rfl rfl rfl ?_
  refine z_gf 45 (.long (J 120 47)) rfl ⟨rfl, rfl, rfl⟩ rfl rfl ?_
  refine x_l 46 rfl rfl rfl ?_
  refine x_s 47 rfl rfl rfl ?_
  refine z_pj 50 rfl rfl ⟨rfl, rfl, rfl⟩ rfl ?_
  refine x_l 51 rfl rfl rfl ?_
  refine z_gf 54 (.long ((J 120 47) + w0)) rfl ⟨rfl, rfl, rfl⟩ rfl rfl ?_
  refine x_l 55 rfl rfl rfl ?_
  refine z_gf 58 (.ref 140) rfl ⟨rfl, rfl, rfl⟩ rfl rfl ?_
  refine x_l 59 rfl rfl rfl ?_
  have h1 := h.1
  have h := h.2
  refine z_il 60 8 rfl ⟨rfl, rfl, rfl⟩ rfl h1 rfl ?_
  refine x_l 61 rfl rfl rfl ?_
  refine z_gf 64 (.int (I 120 33)) rfl ⟨rfl, rfl, rfl⟩ rfl rfl ?_
  have h0 := h.1
  have h := h.2
  refine x_dv 65 rfl h0 rfl ?_
  refine x_s 66 rfl rfl rfl ?_
  refine x_s 67 rfl rfl rfl ?_
  refine x_lj 70 rfl rfl ?_
  refine x_ldv 71 rfl (by decide) rfl ?_
  refine x_t 73 rfl rfl rfl ?_
  refine x_l 74 rfl rfl rfl ?_
  refine x_s 75 rfl rfl rfl ?_
  refine z_gf 78 (.long ((J 120 47) + w0)) rfl ⟨rfl, rfl, rfl⟩ rfl rfl ?_
  refine x_l 80 rfl rfl rfl ?_
  refine x_s 81 rfl rfl rfl ?_
  refine z_pj 84 rfl rfl ⟨rfl, rfl, rfl⟩ rfl ?_
  refine x_l 86 rfl rfl rfl ?_
  exact x_rj rfl rfl h

theorem bk_Mo_print_0 {k : Nat} {pa pb : Nat} {ga : Nat → Nat} {I : pm_II} {J : pm_JJ} {Q : Option Value → pm_H → Prop} {x1 : Int32} (h : Px k 176 m_Mo_is 0 [.int x1, .int 0, .int 500] [] (hp I J (pm_RT pa pb ga)) (fun r h' => h'.1 = 176 ∧ Px (k + 1) 176 m_Mo_print 8 [.ref 120, .int x1, .null, .null] (r.toList ++ []) h' Q)) : Px (k + 1) 176 m_Mo_print 0 [.ref 120, .int x1, .null, .null] [] (hp I J (pm_RT pa pb ga)) Q := by
  refine x_l 1 rfl rfl rfl ?_
  refine z_k 2 0 rfl (by decide) rfl ?_
  refine z_k 5 500 rfl (by decide) rfl ?_
  exact z_cs (As := [.int x1, .int 0, .int 500]) (rest := []) rfl at_Mo_is rfl rfl (Nat.le_of_ble_eq_true rfl) (Nat.le_of_ble_eq_true rfl) rfl h

theorem bk_Mo_print_8 {k : Nat} {pa pb : Nat} {ga : Nat → Nat} {I : pm_II} {J : pm_JJ} {Q : Option Value → pm_H → Prop} {x1 : Int32} {s0 : Int32} (h : ((¬ s0 = 0 → ((¬ (I 120 32) = 0 → ((((I 120 37) + x1) ≤ 4000 → Px (k + 1) 176 m_Mo_print 45 [.ref 120, .int x1, .int (I 120 38), .int 0] [] (hp I J (pm_RT pa pb ga)) Q) ∧ (¬ (((I 120 37) + x1) ≤ 4000) → Q (some (.int (-4))) (hp I J (pm_RT pa pb ga))))) ∧ (¬ (¬ (I 120 32) = 0) → Q (some (.int (-3))) (hp I J (pm_RT pa pb ga))))) ∧ (¬ (¬ s0 = 0) → Q (some (.int (-1))) (hp I J (pm_RT pa pb ga))))) : Px (k + 1) 176 m_Mo_print 8 [.ref 120, .int x1, .null, .null] [.int s0] (hp I J (pm_RT pa pb ga)) Q := by
  refine x_b 11 rfl rfl rfl (fun c => ?_) (fun c => ?_)
  · have h := h.1 c
    refine x_l 14 rfl rfl rfl ?_
    refine z_gf 17 (.int (I 120 32)) rfl ⟨rfl, rfl, rfl⟩ rfl rfl ?_
    refine x_b 20 rfl rfl rfl (fun c => ?_) (fun c => ?_)
    · have h := h.1 c
      refine x_l 24 rfl rfl rfl ?_
      refine z_gf 27 (.int (I 120 37)) rfl ⟨rfl, rfl, rfl⟩ rfl rfl ?_
      refine x_l 28 rfl rfl rfl ?_
      refine x_s 29 rfl rfl rfl ?_
      refine z_k 32 4000 rfl (by decide) rfl ?_
      refine x_b 35 rfl rfl rfl (fun c => ?_) (fun c => ?_)
      · have h := h.1 c
        refine x_l 39 rfl rfl rfl ?_
        refine z_gf 42 (.int (I 120 38)) rfl ⟨rfl, rfl, rfl⟩ rfl rfl ?_
        refine x_t 43 rfl rfl rfl ?_
        refine z_k 44 0 rfl (by decide) rfl ?_
        refine x_t 45 rfl rfl rfl ?_
        exact h
      · have h := h.2 c
        refine z_k 37 (-4) rfl (by decide) rfl ?_
        exact x_ri rfl (Or.inl rfl) h
    · have h := h.2 c
      refine z_k 22 (-3) rfl (by decide) rfl ?_
      exact x_ri rfl (Or.inl rfl) h
  · have h := h.2 c
    refine z_k 12 (-1) rfl (by decide) rfl ?_
    exact x_ri rfl (Or.inl rfl) h

theorem bk_Mo_print_45 {k : Nat} {pa pb : Nat} {ga : Nat → Nat} {I : pm_II} {J : pm_JJ} {Q : Option Value → pm_H → Prop} {x1 : Int32} {x2 : Int32} {x3 : Int32} (h : ((x1 ≤ x3 → Q (some (.int ((I 120 38) - x2))) (hp I J (pm_RT pa pb ga))) ∧ (¬ (x1 ≤ x3) → Px k 176 m_Mo_sheet 0 [.ref 120, .null, .null, .null, .null] [] (hp I J (pm_RT pa pb ga)) (fun r h' => h'.1 = 176 ∧ Px (k + 1) 176 m_Mo_print 54 [.ref 120, .int x1, .int x2, .int x3] (r.toList ++ []) h' Q)))) : Px (k + 1) 176 m_Mo_print 45 [.ref 120, .int x1, .int x2, .int x3] [] (hp I J (pm_RT pa pb ga)) Q := by
  refine x_l 46 rfl rfl rfl ?_
  refine x_l 47 rfl rfl rfl ?_
  refine x_b 50 rfl rfl rfl (fun c => ?_) (fun c => ?_)
  · have h := h.1 c
    refine x_l 62 rfl rfl rfl ?_
    refine z_gf 65 (.int (I 120 38)) rfl ⟨rfl, rfl, rfl⟩ rfl rfl ?_
    refine x_l 66 rfl rfl rfl ?_
    refine x_s 67 rfl rfl rfl ?_
    exact x_ri rfl (Or.inl rfl) h
  · have h := h.2 c
    refine x_l 51 rfl rfl rfl ?_
    exact z_cv (As := []) (rest := []) (b := 120) rfl at_Mo_sheet rfl rfl (Nat.le_of_ble_eq_true rfl) (Nat.le_of_ble_eq_true rfl) ⟨rfl, rfl, rfl⟩ (by decide) rfl h

theorem bk_Mo_print_54 {k : Nat} {pa pb : Nat} {ga : Nat → Nat} {I : pm_II} {J : pm_JJ} {Q : Option Value → pm_H → Prop} {x1 : Int32} {x2 : Int32} {x3 : Int32} {s0 : Int32} (h : Px (k + 1) 176 m_Mo_print 45 [.ref 120, .int x1, .int x2, .int (x3 + Int32.ofInt 1)] [] (hp I J (pm_RT pa pb ga)) Q) : Px (k + 1) 176 m_Mo_print 54 [.ref 120, .int x1, .int x2, .int x3] [.int s0] (hp I J (pm_RT pa pb ga)) Q := by
  refine x_s 55 rfl rfl rfl ?_
  refine x_t 58 rfl rfl rfl ?_
  refine x_g rfl ?_
  exact h

theorem bk_Mo_sheet_0 {k : Nat} {pa pb : Nat} {ga : Nat → Nat} {I : pm_II} {J : pm_JJ} {Q : Option Value → pm_H → Prop} (h : (((I 120 36) = 0 → Px (k + 1) 176 m_Mo_sheet 37 [.ref 120, .int 1, .int 0, .null, .null] [] (hp (pm_up I 120 37 ((I 120 37) + (1 : Int32))) J (pm_RT pa pb ga)) Q) ∧ (¬ ((I 120 36) = 0) → ¬ (I 120 36) = 0 ∧ (((((I 120 37) + (1 : Int32)) - ((I 120 37) + (1 : Int32)) / (I 120 36) * (I 120 36)) = 0 → Px (k + 1) 176 m_Mo_sheet 37 [.ref 120, .int 0, .int 0, .null, .null] [] (hp (pm_up I 120 37 ((I 120 37) + (1 : Int32))) J (pm_RT pa pb ga)) Q) ∧ (¬ ((((I 120 37) + (1 : Int32)) - ((I 120 37) + (1 : Int32)) / (I 120 36) * (I 120 36)) = 0) → Px (k + 1) 176 m_Mo_sheet 37 [.ref 120, .int 1, .int 0, .null, .null] [] (hp (pm_up I 120 37 ((I 120 37) + (1 : Int32))) J (pm_RT pa pb ga)) Q))))) : Px (k + 1) 176 m_Mo_sheet 0 [.ref 120, .null, .null, .null, .null] [] (hp I J (pm_RT pa pb ga)) Q := by
  refine x_l 1 rfl rfl rfl ?_
  refine x_s 2 rfl rfl rfl ?_
  refine z_gf 5 (.int (I 120 37)) rfl ⟨rfl, rfl, rfl⟩ rfl rfl ?_
  refine z_k 6 1 rfl (by decide) rfl ?_
  refine x_s 7 rfl rfl rfl ?_
  refine z_pi 10 rfl (Or.inl rfl) rfl (fun z => by cases z) ⟨rfl, rfl, rfl⟩ rfl ?_
  refine x_l 11 rfl rfl rfl ?_
  refine z_gf 14 (.int (I 120 36)) rfl ⟨rfl, rfl, rfl⟩ rfl rfl ?_
  refine x_b 17 rfl rfl rfl (fun c => ?_) (fun c => ?_)
  · have h := h.1 c
    refine z_k 30 1 rfl (by decide) rfl ?_
    refine x_g rfl ?_
    refine x_t 35 rfl rfl rfl ?_
    refine z_k 36 0 rfl (by decide) rfl ?_
    refine x_t 37 rfl rfl rfl ?_
    exact h
  · have h := h.2 c
    refine x_l 18 rfl rfl rfl ?_
    refine z_gf 21 (.int ((I 120 37) + (1 : Int32))) rfl ⟨rfl, rfl, rfl⟩ rfl rfl ?_
    refine x_l 22 rfl rfl rfl ?_
    refine z_gf 25 (.int (I 120 36)) rfl ⟨rfl, rfl, rfl⟩ rfl rfl ?_
    have h0 := h.1
    have h := h.2
    refine x_rm 26 rfl h0 rfl ?_
    refine x_b 29 rfl rfl rfl (fun c => ?_) (fun c => ?_)
    · have h := h.1 c
      refine z_k 34 0 rfl (by decide) rfl ?_
      refine x_t 35 rfl rfl rfl ?_
      refine z_k 36 0 rfl (by decide) rfl ?_
      refine x_t 37 rfl rfl rfl ?_
      exact h
    · have h := h.2 c
      refine z_k 30 1 rfl (by decide) rfl ?_
      refine x_g rfl ?_
      refine x_t 35 rfl rfl rfl ?_
      refine z_k 36 0 rfl (by decide) rfl ?_
      refine x_t 37 rfl rfl rfl ?_
      exact h

theorem bk_Mo_sheet_37 {k : Nat} {pa pb : Nat} {ga : Nat → Nat} {I : pm_II} {J : pm_JJ} {Q : Option Value → pm_H → Prop} {x1 : Int32} {x2 : Int32} (h : (((I 120 32) ≤ x2 → ((x1 = 0 → Px (k + 1) 176 m_Mo_sheet 175 [.ref 120, .int x1, .int x2, .null, .null] [.int 0, .int (I 120 38), .ref 120] (hp I J (pm_RT pa pb ga)) Q) ∧ (¬ (x1 = 0) → Px (k + 1) 176 m_Mo_sheet 175 [.ref 120, .int x1, .int x2, .null, .null] [.int 1, .int (I 120 38), .ref 120] (hp I J (pm_RT pa pb ga)) Q))) ∧ (¬ ((I 120 32) ≤ x2) → vp_in x2 8 ∧ vp_in x2 8 ∧ vp_in x2 8 ∧ Px k 176 m_Mo_inked 0 [.ref 120, .int (I 139 ((x2 : Int32).toNatClampNeg)), .int x2, .null, .null, .null, .null] [] (hp I (pm_up (pm_up J 120 46 (J 143 ((x2 : Int32).toNatClampNeg))) 120 47 (J 144 ((x2 : Int32).toNatClampNeg))) (pm_RT pa pb ga)) (fun r h' => h'.1 = 176 ∧ Px (k + 1) 176 m_Mo_sheet 76 [.ref 120, .int x1, .int x2, .null, .null] (r.toList ++ []) h' Q)))) : Px (k + 1) 176 m_Mo_sheet 37 [.ref 120, .int x1, .int x2, .null, .null] [] (hp I J (pm_RT pa pb ga)) Q := by
  refine x_l 38 rfl rfl rfl ?_
  refine x_l 39 rfl rfl rfl ?_
  refine z_gf 42 (.int (I 120 32)) rfl ⟨rfl, rfl, rfl⟩ rfl rfl ?_
  refine x_b 45 rfl rfl rfl (fun c => ?_) (fun c => ?_)
  · have h := h.1 c
    refine x_l 162 rfl rfl rfl ?_
    refine x_s 163 rfl rfl rfl ?_
    refine z_gf 166 (.int (I 120 38)) rfl ⟨rfl, rfl, rfl⟩ rfl rfl ?_
    refine x_l 167 rfl rfl rfl ?_
    refine x_b 170 rfl rfl rfl (fun c => ?_) (fun c => ?_)
    · have h := h.1 c
      refine z_k 175 0 rfl (by decide) rfl ?_
      exact h
    · have h := h.2 c
      refine z_k 171 1 rfl (by decide) rfl ?_
      refine x_g rfl ?_
      exact h
  · have h := h.2 c
    refine x_l 46 rfl rfl rfl ?_
    refine x_l 47 rfl rfl rfl ?_
    refine z_gf 50 (.ref 143) rfl ⟨rfl, rfl, rfl⟩ rfl rfl ?_
    refine x_l 51 rfl rfl rfl ?_
    have h1 := h.1
    have h := h.2
    refine z_jl 52 8 rfl ⟨rfl, rfl, rfl⟩ rfl h1 rfl ?_
    refine z_pj 55 rfl rfl ⟨rfl, rfl, rfl⟩ rfl ?_
    refine x_l 56 rfl rfl rfl ?_
    refine x_l 57 rfl rfl rfl ?_
    refine z_gf 60 (.ref 144) rfl ⟨rfl, rfl, rfl⟩ rfl rfl ?_
    refine x_l 61 rfl rfl rfl ?_
    have h1 := h.1
    have h := h.2
    refine z_jl 62 8 rfl ⟨rfl, rfl, rfl⟩ rfl h1 rfl ?_
    refine z_pj 65 rfl rfl ⟨rfl, rfl, rfl⟩ rfl ?_
    refine x_l 66 rfl rfl rfl ?_
    refine x_l 67 rfl rfl rfl ?_
    refine z_gf 70 (.ref 139) rfl ⟨rfl, rfl, rfl⟩ rfl rfl ?_
    refine x_l 71 rfl rfl rfl ?_
    have h1 := h.1
    have h := h.2
    refine z_il 72 8 rfl ⟨rfl, rfl, rfl⟩ rfl h1 rfl ?_
    refine x_l 73 rfl rfl rfl ?_
    exact z_cv (As := [.int (I 139 ((x2 : Int32).toNatClampNeg)), .int x2]) (rest := []) (b := 120) rfl at_Mo_inked rfl rfl (Nat.le_of_ble_eq_true rfl) (Nat.le_of_ble_eq_true rfl) ⟨rfl, rfl, rfl⟩ (by decide) rfl h

theorem bk_Mo_sheet_76 {k : Nat} {pa pb : Nat} {ga : Nat → Nat} {I : pm_II} {J : pm_JJ} {Q : Option Value → pm_H → Prop} {x1 : Int32} {x2 : Int32} {w0 : Int64} (h : vp_in x2 8 ∧ vp_in x2 8 ∧ vp_in x2 8 ∧ vp_in x2 8 ∧ Px k 176 m_Mo_shown 0 [.long w0, .null] [] (hp I (pm_up (pm_up (pm_up J 143 ((x2 : Int32).toNatClampNeg) (J 120 46)) 144 ((x2 : Int32).toNatClampNeg) (J 120 47)) 145 ((x2 : Int32).toNatClampNeg) ((J 145 ((x2 : Int32).toNatClampNeg)) + w0)) (pm_RT pa pb ga)) (fun r h' => h'.1 = 176 ∧ Px (k + 1) 176 m_Mo_sheet 116 [.ref 120, .int x1, .int x2, .long w0, .null] (r.toList ++ [.int x2, .ref 141]) h' Q)) : Px (k + 1) 176 m_Mo_sheet 76 [.ref 120, .int x1, .int x2, .null, .null] [.long w0] (hp I J (pm_RT pa pb ga)) Q := by
  refine x_t 77 rfl rfl rfl ?_
  refine x_l 78 rfl rfl rfl ?_
  refine z_gf 81 (.ref 143) rfl ⟨rfl, rfl, rfl⟩ rfl rfl ?_
  refine x_l 82 rfl rfl rfl ?_
  refine x_l 83 rfl rfl rfl ?_
  refine z_gf 86 (.long (J 120 46)) rfl ⟨rfl, rfl, rfl⟩ rfl rfl ?_
  have h1 := h.1
  have h := h.2
  refine z_js 87 8 rfl ⟨rfl, rfl, rfl⟩ rfl h1 rfl ?_
  refine x_l 88 rfl rfl rfl ?_
  refine z_gf 91 (.ref 144) rfl ⟨rfl, rfl, rfl⟩ rfl rfl ?_
  refine x_l 92 rfl rfl rfl ?_
  refine x_l 93 rfl rfl rfl ?_
  refine z_gf 96 (.long (J 120 47)) rfl ⟨rfl, rfl, rfl⟩ rfl rfl ?_
  have h1 := h.1
  have h := h.2
  refine z_js 97 8 rfl ⟨rfl, rfl, rfl⟩ rfl h1 rfl ?_
  refine x_l 98 rfl rfl rfl ?_
  refine z_gf 101 (.ref 145) rfl ⟨rfl, rfl, rfl⟩ rfl rfl ?_
  refine x_l 102 rfl rfl rfl ?_
  refine x_s 103 rfl rfl rfl ?_
  have h1 := h.1
  have h := h.2
  refine z_jl 104 8 rfl ⟨rfl, rfl, rfl⟩ rfl h1 rfl ?_
  refine x_l 105 rfl rfl rfl ?_
  refine x_s 106 rfl rfl rfl ?_
  have h1 := h.1
  have h := h.2
  refine z_js 107 8 rfl ⟨rfl, rfl, rfl⟩ rfl h1 rfl ?_
  refine x_l 108 rfl rfl rfl ?_
  refine z_gf 111 (.ref 141) rfl ⟨rfl, rfl, rfl⟩ rfl rfl ?_
  refine x_l 112 rfl rfl rfl ?_
  refine x_l 113 rfl rfl rfl ?_
  exact z_cs (As := [.long w0]) (rest := [.int x2, .ref 141]) rfl at_Mo_shown rfl rfl (Nat.le_of_ble_eq_true rfl) (Nat.le_of_ble_eq_true rfl) rfl h

theorem bk_Mo_sheet_116 {k : Nat} {pa pb : Nat} {ga : Nat → Nat} {I : pm_II} {J : pm_JJ} {Q : Option Value → pm_H → Prop} {x1 : Int32} {x2 : Int32} {y3 : Int64} {s1 : Int32} {s2 : Int32} (h : vp_in s1 8 ∧ ((x1 = 0 → Px (k + 1) 176 m_Mo_sheet 37 [.ref 120, .int 0, .int (x2 + Int32.ofInt 1), .long y3, .null] [] (hp (pm_up I 141 ((s1 : Int32).toNatClampNeg) s2) J (pm_RT pa pb ga)) Q) ∧ (¬ (x1 = 0) → vp_in x2 8 ∧ (((I 140 ((x2 : Int32).toNatClampNeg)) = 0 → Px (k + 1) 176 m_Mo_sheet 37 [.ref 120, .int 1, .int (x2 + Int32.ofInt 1), .long y3, .null] [] (hp (pm_up I 141 ((s1 : Int32).toNatClampNeg) s2) J (pm_RT pa pb ga)) Q) ∧ (¬ ((I 140 ((x2 : Int32).toNatClampNeg)) = 0) → Px k 176 m_Jm_abs_J 0 [.long (y3 - ((I 120 34) : Int32).toInt64), .null] [] (hp (pm_up I 141 ((s1 : Int32).toNatClampNeg) s2) J (pm_RT pa pb ga)) (fun r h' => h'.1 = 176 ∧ Px (k + 1) 176 m_Mo_sheet 140 [.ref 120, .int x1, .int x2, .long y3, .null] (r.toList ++ []) h' Q)))))) : Px (k + 1) 176 m_Mo_sheet 116 [.ref 120, .int x1, .int x2, .long y3, .null] [.int s2, .int s1, .ref 141] (hp I J (pm_RT pa pb ga)) Q := by
  have h1 := h.1
  have h := h.2
  refine z_is 117 8 rfl ⟨rfl, rfl, rfl⟩ rfl h1 rfl ?_
  refine x_l 118 rfl rfl rfl ?_
  refine x_b 121 rfl rfl rfl (fun c => ?_) (fun c => ?_)
  · have h := h.1 c
    refine z_k 154 0 rfl (by decide) rfl ?_
    refine x_t 155 rfl rfl rfl ?_
    refine x_t 158 rfl rfl rfl ?_
    refine x_g rfl ?_
    exact h
  · have h := h.2 c
    refine x_l 122 rfl rfl rfl ?_
    refine z_gf 125 (.ref 140) rfl ⟨rfl, rfl, rfl⟩ rfl rfl ?_
    refine x_l 126 rfl rfl rfl ?_
    have h1 := h.1
    have h := h.2
    refine z_il 127 8 rfl ⟨rfl, rfl, rfl⟩ rfl h1 rfl ?_
    refine x_b 130 rfl rfl rfl (fun c => ?_) (fun c => ?_)
    · have h := h.1 c
      refine z_k 150 1 rfl (by decide) rfl ?_
      refine x_g rfl ?_
      refine x_t 155 rfl rfl rfl ?_
      refine x_t 158 rfl rfl rfl ?_
      refine x_g rfl ?_
      exact h
    · have h := h.2 c
      refine x_l 131 rfl rfl rfl ?_
      refine x_l 132 rfl rfl rfl ?_
      refine z_gf 135 (.int (I 120 34)) rfl ⟨rfl, rfl, rfl⟩ rfl rfl ?_
      refine x_s 136 rfl rfl rfl ?_
      refine x_s 137 rfl rfl rfl ?_
      exact z_cs (As := [.long (y3 - ((I 120 34) : Int32).toInt64)]) (rest := []) rfl at_Jm_abs_J rfl rfl (Nat.le_of_ble_eq_true rfl) (Nat.le_of_ble_eq_true rfl) rfl h

theorem bk_Mo_sheet_140 {k : Nat} {pa pb : Nat} {ga : Nat → Nat} {I : pm_II} {J : pm_JJ} {Q : Option Value → pm_H → Prop} {x1 : Int32} {x2 : Int32} {y3 : Int64} {w0 : Int64} (h : ((0 < (lg_cmp w0 (((I 120 35) : Int32).toInt64)) → Px (k + 1) 176 m_Mo_sheet 37 [.ref 120, .int 0, .int (x2 + Int32.ofInt 1), .long y3, .null] [] (hp I J (pm_RT pa pb ga)) Q) ∧ (¬ (0 < (lg_cmp w0 (((I 120 35) : Int32).toInt64))) → Px (k + 1) 176 m_Mo_sheet 37 [.ref 120, .int 1, .int (x2 + Int32.ofInt 1), .long y3, .null] [] (hp I J (pm_RT pa pb ga)) Q))) : Px (k + 1) 176 m_Mo_sheet 140 [.ref 120, .int x1, .int x2, .long y3, .null] [.long w0] (hp I J (pm_RT pa pb ga)) Q := by
  refine x_l 141 rfl rfl rfl ?_
  refine z_gf 144 (.int (I 120 35)) rfl ⟨rfl, rfl, rfl⟩ rfl rfl ?_
  refine x_s 145 rfl rfl rfl ?_
  refine x_lc 146 rfl rfl ?_
  refine x_b 149 rfl rfl rfl (fun c => ?_) (fun c => ?_)
  · have h := h.1 c
    refine z_k 154 0 rfl (by decide) rfl ?_
    refine x_t 155 rfl rfl rfl ?_
    refine x_t 158 rfl rfl rfl ?_
    refine x_g rfl ?_
    exact h
  · have h := h.2 c
    refine z_k 150 1 rfl (by decide) rfl ?_
    refine x_g rfl ?_
    refine x_t 155 rfl rfl rfl ?_
    refine x_t 158 rfl rfl rfl ?_
    refine x_g rfl ?_
    exact h

theorem bk_Mo_sheet_175 {k : Nat} {pa pb : Nat} {ga : Nat → Nat} {I : pm_II} {J : pm_JJ} {Q : Option Value → pm_H → Prop} {x1 : Int32} {x2 : Int32} {s1 : Int32} {s2 : Int32} (h : ((4000 < (I 120 37) → (x1 = 0 ∨ x1 = 1) ∧ Q (some (.int x1)) (hp (pm_up I 120 38 (s1 + s2)) J (pm_RT pa pb ga))) ∧ (¬ (4000 < (I 120 37)) → ((x1 = 0 → vp_in (I 120 37) 4001 ∧ (x1 = 0 ∨ x1 = 1) ∧ Q (some (.int x1)) (hp (pm_up (pm_up I 120 38 (s1 + s2)) 142 (((I 120 37) : Int32).toNatClampNeg) 0) J (pm_RT pa pb ga))) ∧ (¬ (x1 = 0) → vp_in (I 120 37) 4001 ∧ (x1 = 0 ∨ x1 = 1) ∧ Q (some (.int x1)) (hp (pm_up (pm_up I 120 38 (s1 + s2)) 142 (((I 120 37) : Int32).toNatClampNeg) (s1 + s2)) J (pm_RT pa pb ga))))))) : Px (k + 1) 176 m_Mo_sheet 175 [.ref 120, .int x1, .int x2, .null, .null] [.int s2, .int s1, .ref 120] (hp I J (pm_RT pa pb ga)) Q := by
  refine x_s 176 rfl rfl rfl ?_
  refine z_pi 179 rfl (Or.inl rfl) rfl (fun z => by cases z) ⟨rfl, rfl, rfl⟩ rfl ?_
  refine x_l 180 rfl rfl rfl ?_
  refine z_gf 183 (.int (I 120 37)) rfl ⟨rfl, rfl, rfl⟩ rfl rfl ?_
  refine z_k 186 4000 rfl (by decide) rfl ?_
  refine x_b 189 rfl rfl rfl (fun c => ?_) (fun c => ?_)
  · have h := h.1 c
    refine x_l 211 rfl rfl rfl ?_
    exact x_ri rfl (Or.inr ⟨rfl, h.1⟩) h.2
  · have h := h.2 c
    refine x_l 190 rfl rfl rfl ?_
    refine z_gf 193 (.ref 142) rfl ⟨rfl, rfl, rfl⟩ rfl rfl ?_
    refine x_l 194 rfl rfl rfl ?_
    refine z_gf 197 (.int (I 120 37)) rfl ⟨rfl, rfl, rfl⟩ rfl rfl ?_
    refine x_l 198 rfl rfl rfl ?_
    refine x_b 201 rfl rfl rfl (fun c => ?_) (fun c => ?_)
    · have h := h.1 c
      refine z_k 209 0 rfl (by decide) rfl ?_
      have h1 := h.1
      have h := h.2
      refine z_is 210 4001 rfl ⟨rfl, rfl, rfl⟩ rfl h1 rfl ?_
      refine x_l 211 rfl rfl rfl ?_
      exact x_ri rfl (Or.inr ⟨rfl, h.1⟩) h.2
    · have h := h.2 c
      refine x_l 202 rfl rfl rfl ?_
      refine z_gf 205 (.int (s1 + s2)) rfl ⟨rfl, rfl, rfl⟩ rfl rfl ?_
      refine x_g rfl ?_
      have h1 := h.1
      have h := h.2
      refine z_is 210 4001 rfl ⟨rfl, rfl, rfl⟩ rfl h1 rfl ?_
      refine x_l 211 rfl rfl rfl ?_
      exact x_ri rfl (Or.inr ⟨rfl, h.1⟩) h.2

theorem bk_Mo_shown_0 {k : Nat} {pa pb : Nat} {ga : Nat → Nat} {I : pm_II} {J : pm_JJ} {Q : Option Value → pm_H → Prop} {y0 : Int64} (h : Px k 176 m_Jm_min_JJ 0 [.long y0, .null, .long (Int64.ofNat 2000000000), .null] [] (hp I J (pm_RT pa pb ga)) (fun r h' => h'.1 = 176 ∧ Px (k + 1) 176 m_Mo_shown 7 [.long y0, .null] (r.toList ++ []) h' Q)) : Px (k + 1) 176 m_Mo_shown 0 [.long y0, .null] [] (hp I J (pm_RT pa pb ga)) Q := by
  refine x_l 1 rfl rfl rfl ?_
  refine x_lj 4 rfl rfl ?_
  exact z_cs (As := [.long y0, .long (Int64.ofNat 2000000000)]) (rest := []) rfl at_Jm_min_JJ rfl rfl (Nat.le_of_ble_eq_true rfl) (Nat.le_of_ble_eq_true rfl) rfl h

theorem bk_Mo_shown_7 {k : Nat} {pa pb : Nat} {ga : Nat → Nat} {I : pm_II} {J : pm_JJ} {Q : Option Value → pm_H → Prop} {y0 : Int64} {w0 : Int64} (h : Q (some (.int (w0 : Int64).toInt32)) (hp I J (pm_RT pa pb ga))) : Px (k + 1) 176 m_Mo_shown 7 [.long y0, .null] [.long w0] (hp I J (pm_RT pa pb ga)) Q := by
  refine x_s 8 rfl rfl rfl ?_
  exact x_ri rfl (Or.inl rfl) h

theorem bk_Mo_good_0 {k : Nat} {pa pb : Nat} {ga : Nat → Nat} {I : pm_II} {J : pm_JJ} {Q : Option Value → pm_H → Prop} {x1 : Int32} (h : Px k 176 m_Mo_is 0 [.int x1, .int 1, .int 200] [] (hp I J (pm_RT pa pb ga)) (fun r h' => h'.1 = 176 ∧ Px (k + 1) 176 m_Mo_good 8 [.ref 120, .int x1, .null, .null] (r.toList ++ []) h' Q)) : Px (k + 1) 176 m_Mo_good 0 [.ref 120, .int x1, .null, .null] [] (hp I J (pm_RT pa pb ga)) Q := by
  refine x_l 1 rfl rfl rfl ?_
  refine z_k 2 1 rfl (by decide) rfl ?_
  refine z_k 5 200 rfl (by decide) rfl ?_
  exact z_cs (As := [.int x1, .int 1, .int 200]) (rest := []) rfl at_Mo_is rfl rfl (Nat.le_of_ble_eq_true rfl) (Nat.le_of_ble_eq_true rfl) rfl h

theorem bk_Mo_good_8 {k : Nat} {pa pb : Nat} {ga : Nat → Nat} {I : pm_II} {J : pm_JJ} {Q : Option Value → pm_H → Prop} {x1 : Int32} {s0 : Int32} (h : ((¬ s0 = 0 → ((¬ (I 120 32) = 0 → Px (k + 1) 176 m_Mo_good 30 [.ref 120, .int x1, .int (I 120 38), .int 0] [] (hp I J (pm_RT pa pb ga)) Q) ∧ (¬ (¬ (I 120 32) = 0) → Q (some (.int (-3))) (hp I J (pm_RT pa pb ga))))) ∧ (¬ (¬ s0 = 0) → Q (some (.int (-1))) (hp I J (pm_RT pa pb ga))))) : Px (k + 1) 176 m_Mo_good 8 [.ref 120, .int x1, .null, .null] [.int s0] (hp I J (pm_RT pa pb ga)) Q := by
  refine x_b 11 rfl rfl rfl (fun c => ?_) (fun c => ?_)
  · have h := h.1 c
    refine x_l 14 rfl rfl rfl ?_
    refine z_gf 17 (.int (I 120 32)) rfl ⟨rfl, rfl, rfl⟩ rfl rfl ?_
    refine x_b 20 rfl rfl rfl (fun c => ?_) (fun c => ?_)
    · have h := h.1 c
      refine x_l 24 rfl rfl rfl ?_
      refine z_gf 27 (.int (I 120 38)) rfl ⟨rfl, rfl, rfl⟩ rfl rfl ?_
      refine x_t 28 rfl rfl rfl ?_
      refine z_k 29 0 rfl (by decide) rfl ?_
      refine x_t 30 rfl rfl rfl ?_
      exact h
    · have h := h.2 c
      refine z_k 22 (-3) rfl (by decide) rfl ?_
      exact x_ri rfl (Or.inl rfl) h
  · have h := h.2 c
    refine z_k 12 (-1) rfl (by decide) rfl ?_
    exact x_ri rfl (Or.inl rfl) h

theorem bk_Mo_good_30 {k : Nat} {pa pb : Nat} {ga : Nat → Nat} {I : pm_II} {J : pm_JJ} {Q : Option Value → pm_H → Prop} {x1 : Int32} {x2 : Int32} {x3 : Int32} (h : ((500 ≤ x3 → Px (k + 1) 176 m_Mo_good 68 [.ref 120, .int x1, .int x2, .int x3] [] (hp I J (pm_RT pa pb ga)) Q) ∧ (¬ (500 ≤ x3) → ((4000 ≤ (I 120 37) → Px (k + 1) 176 m_Mo_good 68 [.ref 120, .int x1, .int x2, .int x3] [] (hp I J (pm_RT pa pb ga)) Q) ∧ (¬ (4000 ≤ (I 120 37)) → (((x2 + x1) ≤ (I 120 38) → Px (k + 1) 176 m_Mo_good 68 [.ref 120, .int x1, .int x2, .int x3] [] (hp I J (pm_RT pa pb ga)) Q) ∧ (¬ ((x2 + x1) ≤ (I 120 38)) → Px k 176 m_Mo_sheet 0 [.ref 120, .null, .null, .null, .null] [] (hp I J (pm_RT pa pb ga)) (fun r h' => h'.1 = 176 ∧ Px (k + 1) 176 m_Mo_good 61 [.ref 120, .int x1, .int x2, .int x3] (r.toList ++ []) h' Q)))))))) : Px (k + 1) 176 m_Mo_good 30 [.ref 120, .int x1, .int x2, .int x3] [] (hp I J (pm_RT pa pb ga)) Q := by
  refine x_l 31 rfl rfl rfl ?_
  refine z_k 34 500 rfl (by decide) rfl ?_
  refine x_b 37 rfl rfl rfl (fun c => ?_) (fun c => ?_)
  · have h := h.1 c
    exact h
  · have h := h.2 c
    refine x_l 38 rfl rfl rfl ?_
    refine z_gf 41 (.int (I 120 37)) rfl ⟨rfl, rfl, rfl⟩ rfl rfl ?_
    refine z_k 44 4000 rfl (by decide) rfl ?_
    refine x_b 47 rfl rfl rfl (fun c => ?_) (fun c => ?_)
    · have h := h.1 c
      exact h
    · have h := h.2 c
      refine x_l 48 rfl rfl rfl ?_
      refine z_gf 51 (.int (I 120 38)) rfl ⟨rfl, rfl, rfl⟩ rfl rfl ?_
      refine x_l 52 rfl rfl rfl ?_
      refine x_l 53 rfl rfl rfl ?_
      refine x_s 54 rfl rfl rfl ?_
      refine x_b 57 rfl rfl rfl (fun c => ?_) (fun c => ?_)
      · have h := h.1 c
        exact h
      · have h := h.2 c
        refine x_l 58 rfl rfl rfl ?_
        exact z_cv (As := []) (rest := []) (b := 120) rfl at_Mo_sheet rfl rfl (Nat.le_of_ble_eq_true rfl) (Nat.le_of_ble_eq_true rfl) ⟨rfl, rfl, rfl⟩ (by decide) rfl h

theorem bk_Mo_good_61 {k : Nat} {pa pb : Nat} {ga : Nat → Nat} {I : pm_II} {J : pm_JJ} {Q : Option Value → pm_H → Prop} {x1 : Int32} {x2 : Int32} {x3 : Int32} {s0 : Int32} (h : Px (k + 1) 176 m_Mo_good 30 [.ref 120, .int x1, .int x2, .int (x3 + Int32.ofInt 1)] [] (hp I J (pm_RT pa pb ga)) Q) : Px (k + 1) 176 m_Mo_good 61 [.ref 120, .int x1, .int x2, .int x3] [.int s0] (hp I J (pm_RT pa pb ga)) Q := by
  refine x_s 62 rfl rfl rfl ?_
  refine x_t 65 rfl rfl rfl ?_
  refine x_g rfl ?_
  exact h

theorem bk_Mo_good_68 {k : Nat} {pa pb : Nat} {ga : Nat → Nat} {I : pm_II} {J : pm_JJ} {Q : Option Value → pm_H → Prop} {x1 : Int32} {x2 : Int32} {x3 : Int32} (h : Q (some (.int x3)) (hp I J (pm_RT pa pb ga))) : Px (k + 1) 176 m_Mo_good 68 [.ref 120, .int x1, .int x2, .int x3] [] (hp I J (pm_RT pa pb ga)) Q := by
  refine x_l 69 rfl rfl rfl ?_
  exact x_ri rfl (Or.inl rfl) h

theorem bk_Mo_zone_0 {k : Nat} {pa pb : Nat} {ga : Nat → Nat} {I : pm_II} {J : pm_JJ} {Q : Option Value → pm_H → Prop} {x1 : Int32} {x2 : Int32} (h : Px k 176 m_Mo_isZone 0 [.ref 120, .int x1] [] (hp I J (pm_RT pa pb ga)) (fun r h' => h'.1 = 176 ∧ Px (k + 1) 176 m_Mo_zone 5 [.ref 120, .int x1, .int x2] (r.toList ++ []) h' Q)) : Px (k + 1) 176 m_Mo_zone 0 [.ref 120, .int x1, .int x2] [] (hp I J (pm_RT pa pb ga)) Q := by
  refine x_l 1 rfl rfl rfl ?_
  refine x_l 2 rfl rfl rfl ?_
  exact z_cv (As := [.int x1]) (rest := []) (b := 120) rfl at_Mo_isZone rfl rfl (Nat.le_of_ble_eq_true rfl) (Nat.le_of_ble_eq_true rfl) ⟨rfl, rfl, rfl⟩ (by decide) rfl h

theorem bk_Mo_zone_5 {k : Nat} {pa pb : Nat} {ga : Nat → Nat} {I : pm_II} {J : pm_JJ} {Q : Option Value → pm_H → Prop} {x1 : Int32} {x2 : Int32} {s0 : Int32} (h : ((¬ s0 = 0 → ((x2 = nI 0 → vp_in x1 8 ∧ Q (some (.int (I 140 ((x1 : Int32).toNatClampNeg)))) (hp I J (pm_RT pa pb ga))) ∧ (x2 = nI 1 → vp_in x1 8 ∧ Px k 176 m_Mo_shown 0 [.long (J 143 ((x1 : Int32).toNatClampNeg)), .null] [] (hp I J (pm_RT pa pb ga)) (fun r h' => h'.1 = 176 ∧ Px (k + 1) 176 m_Mo_zone 64 [.ref 120, .int x1, .int x2] (r.toList ++ []) h' Q)) ∧ (x2 = nI 2 → vp_in x1 8 ∧ Px k 176 m_Mo_shown 0 [.long (J 144 ((x1 : Int32).toNatClampNeg)), .null] [] (hp I J (pm_RT pa pb ga)) (fun r h' => h'.1 = 176 ∧ Px (k + 1) 176 m_Mo_zone 74 [.ref 120, .int x1, .int x2] (r.toList ++ []) h' Q)) ∧ (x2 = nI 3 → vp_in x1 8 ∧ Q (some (.int (I 141 ((x1 : Int32).toNatClampNeg)))) (hp I J (pm_RT pa pb ga))) ∧ (x2 = nI 4 → vp_in x1 8 ∧ Px k 176 m_Mo_shown 0 [.long (J 145 ((x1 : Int32).toNatClampNeg)), .null] [] (hp I J (pm_RT pa pb ga)) (fun r h' => h'.1 = 176 ∧ Px (k + 1) 176 m_Mo_zone 91 [.ref 120, .int x1, .int x2] (r.toList ++ []) h' Q)) ∧ (x2 = nI 5 → vp_in x1 8 ∧ Q (some (.int (I 139 ((x1 : Int32).toNatClampNeg)))) (hp I J (pm_RT pa pb ga))) ∧ ((x2 < 0 ∨ nI 5 < x2) → Q (some (.int (-1))) (hp I J (pm_RT pa pb ga))))) ∧ (¬ (¬ s0 = 0) → Q (some (.int (-1))) (hp I J (pm_RT pa pb ga))))) : Px (k + 1) 176 m_Mo_zone 5 [.ref 120, .int x1, .int x2] [.int s0] (hp I J (pm_RT pa pb ga)) Q := by
  refine x_b 8 rfl rfl rfl (fun c => ?_) (fun c => ?_)
  · have h := h.1 c
    refine x_l 11 rfl rfl rfl ?_
    refine z_sw 5 (dt := 99) rfl rfl (by decide) (fun i hi e => ?_) (fun c => ?_)
    · match i, hi with
      | 0, _ =>
        refine ⟨_, 48, rfl, rfl, ?_⟩
        have h := h.1 e
        refine x_l 49 rfl rfl rfl ?_
        refine z_gf 52 (.ref 140) rfl ⟨rfl, rfl, rfl⟩ rfl rfl ?_
        refine x_l 53 rfl rfl rfl ?_
        have h1 := h.1
        have h := h.2
        refine z_il 54 8 rfl ⟨rfl, rfl, rfl⟩ rfl h1 rfl ?_
        exact x_ri rfl (Or.inl rfl) h
      | 1, _ =>
        refine ⟨_, 55, rfl, rfl, ?_⟩
        have h := h.2.1 e
        refine x_l 56 rfl rfl rfl ?_
        refine z_gf 59 (.ref 143) rfl ⟨rfl, rfl, rfl⟩ rfl rfl ?_
        refine x_l 60 rfl rfl rfl ?_
        have h1 := h.1
        have h := h.2
        refine z_jl 61 8 rfl ⟨rfl, rfl, rfl⟩ rfl h1 rfl ?_
        exact z_cs (As := [.long (J 143 ((x1 : Int32).toNatClampNeg))]) (rest := []) rfl at_Mo_shown rfl rfl (Nat.le_of_ble_eq_true rfl) (Nat.le_of_ble_eq_true rfl) rfl h
      | 2, _ =>
        refine ⟨_, 65, rfl, rfl, ?_⟩
        have h := h.2.2.1 e
        refine x_l 66 rfl rfl rfl ?_
        refine z_gf 69 (.ref 144) rfl ⟨rfl, rfl, rfl⟩ rfl rfl ?_
        refine x_l 70 rfl rfl rfl ?_
        have h1 := h.1
        have h := h.2
        refine z_jl 71 8 rfl ⟨rfl, rfl, rfl⟩ rfl h1 rfl ?_
        exact z_cs (As := [.long (J 144 ((x1 : Int32).toNatClampNeg))]) (rest := []) rfl at_Mo_shown rfl rfl (Nat.le_of_ble_eq_true rfl) (Nat.le_of_ble_eq_true rfl) rfl h
      | 3, _ =>
        refine ⟨_, 75, rfl, rfl, ?_⟩
        have h := h.2.2.2.1 e
        refine x_l 76 rfl rfl rfl ?_
        refine z_gf 79 (.ref 141) rfl ⟨rfl, rfl, rfl⟩ rfl rfl ?_
        refine x_l 80 rfl rfl rfl ?_
        have h1 := h.1
        have h := h.2
        refine z_il 81 8 rfl ⟨rfl, rfl, rfl⟩ rfl h1 rfl ?_
        exact x_ri rfl (Or.inl rfl) h
      | 4, _ =>
        refine ⟨_, 82, rfl, rfl, ?_⟩
        have h := h.2.2.2.2.1 e
        refine x_l 83 rfl rfl rfl ?_
        refine z_gf 86 (.ref 145) rfl ⟨rfl, rfl, rfl⟩ rfl rfl ?_
        refine x_l 87 rfl rfl rfl ?_
        have h1 := h.1
        have h := h.2
        refine z_jl 88 8 rfl ⟨rfl, rfl, rfl⟩ rfl h1 rfl ?_
        exact z_cs (As := [.long (J 145 ((x1 : Int32).toNatClampNeg))]) (rest := []) rfl at_Mo_shown rfl rfl (Nat.le_of_ble_eq_true rfl) (Nat.le_of_ble_eq_true rfl) rfl h
      | 5, _ =>
        refine ⟨_, 92, rfl, rfl, ?_⟩
        have h := h.2.2.2.2.2.1 e
        refine x_l 93 rfl rfl rfl ?_
        refine z_gf 96 (.ref 139) rfl ⟨rfl, rfl, rfl⟩ rfl rfl ?_
        refine x_l 97 rfl rfl rfl ?_
        have h1 := h.1
        have h := h.2
        refine z_il 98 8 rfl ⟨rfl, rfl, rfl⟩ rfl h1 rfl ?_
        exact x_ri rfl (Or.inl rfl) h
      | n + 6, hi => exact absurd hi (by omega)
    · have h := h.2.2.2.2.2.2 c
      refine z_k 100 (-1) rfl (by decide) rfl ?_
      exact x_ri rfl (Or.inl rfl) h
  · have h := h.2 c
    refine z_k 9 (-1) rfl (by decide) rfl ?_
    exact x_ri rfl (Or.inl rfl) h

theorem bk_Mo_zone_64 {k : Nat} {pa pb : Nat} {ga : Nat → Nat} {I : pm_II} {J : pm_JJ} {Q : Option Value → pm_H → Prop} {x1 : Int32} {x2 : Int32} {s0 : Int32} (h : Q (some (.int s0)) (hp I J (pm_RT pa pb ga))) : Px (k + 1) 176 m_Mo_zone 64 [.ref 120, .int x1, .int x2] [.int s0] (hp I J (pm_RT pa pb ga)) Q := by
  exact x_ri rfl (Or.inl rfl) h

theorem bk_Mo_zone_74 {k : Nat} {pa pb : Nat} {ga : Nat → Nat} {I : pm_II} {J : pm_JJ} {Q : Option Value → pm_H → Prop} {x1 : Int32} {x2 : Int32} {s0 : Int32} (h : Q (some (.int s0)) (hp I J (pm_RT pa pb ga))) : Px (k + 1) 176 m_Mo_zone 74 [.ref 120, .int x1, .int x2] [.int s0] (hp I J (pm_RT pa pb ga)) Q := by
  exact x_ri rfl (Or.inl rfl) h

theorem bk_Mo_zone_91 {k : Nat} {pa pb : Nat} {ga : Nat → Nat} {I : pm_II} {J : pm_JJ} {Q : Option Value → pm_H → Prop} {x1 : Int32} {x2 : Int32} {s0 : Int32} (h : Q (some (.int s0)) (hp I J (pm_RT pa pb ga))) : Px (k + 1) 176 m_Mo_zone 91 [.ref 120, .int x1, .int x2] [.int s0] (hp I J (pm_RT pa pb ga)) Q := by
  exact x_ri rfl (Or.inl rfl) h

theorem bk_Mo_number_0 {k : Nat} {pa pb : Nat} {ga : Nat → Nat} {I : pm_II} {J : pm_JJ} {Q : Option Value → pm_H → Prop} {x1 : Int32} (h : Px k 176 m_Jm_min_II 0 [.int (I 120 37), .int 4000] [] (hp I J (pm_RT pa pb ga)) (fun r h' => h'.1 = 176 ∧ Px (k + 1) 176 m_Mo_number 12 [.ref 120, .int x1] (r.toList ++ [.int 1, .int x1]) h' Q)) : Px (k + 1) 176 m_Mo_number 0 [.ref 120, .int x1] [] (hp I J (pm_RT pa pb ga)) Q := by
  refine x_l 1 rfl rfl rfl ?_
  refine z_k 2 1 rfl (by decide) rfl ?_
  refine x_l 3 rfl rfl rfl ?_
  refine z_gf 6 (.int (I 120 37)) rfl ⟨rfl, rfl, rfl⟩ rfl rfl ?_
  refine z_k 9 4000 rfl (by decide) rfl ?_
  exact z_cs (As := [.int (I 120 37), .int 4000]) (rest := [.int 1, .int x1]) rfl at_Jm_min_II rfl rfl (Nat.le_of_ble_eq_true rfl) (Nat.le_of_ble_eq_true rfl) rfl h

theorem bk_Mo_number_12 {k : Nat} {pa pb : Nat} {ga : Nat → Nat} {I : pm_II} {J : pm_JJ} {Q : Option Value → pm_H → Prop} {x1 : Int32} {s0 : Int32} {s1 : Int32} {s2 : Int32} (h : Px k 176 m_Mo_is 0 [.int s0, .int s1, .int s2] [] (hp I J (pm_RT pa pb ga)) (fun r h' => h'.1 = 176 ∧ Px (k + 1) 176 m_Mo_number 15 [.ref 120, .int x1] (r.toList ++ []) h' Q)) : Px (k + 1) 176 m_Mo_number 12 [.ref 120, .int x1] [.int s2, .int s1, .int s0] (hp I J (pm_RT pa pb ga)) Q := by
  exact z_cs (As := [.int s0, .int s1, .int s2]) (rest := []) rfl at_Mo_is rfl rfl (Nat.le_of_ble_eq_true rfl) (Nat.le_of_ble_eq_true rfl) rfl h

theorem bk_Mo_number_15 {k : Nat} {pa pb : Nat} {ga : Nat → Nat} {I : pm_II} {J : pm_JJ} {Q : Option Value → pm_H → Prop} {x1 : Int32} {s0 : Int32} (h : ((s0 = 0 → Q (some (.int (-1))) (hp I J (pm_RT pa pb ga))) ∧ (¬ (s0 = 0) → vp_in x1 4001 ∧ Q (some (.int (I 142 ((x1 : Int32).toNatClampNeg)))) (hp I J (pm_RT pa pb ga))))) : Px (k + 1) 176 m_Mo_number 15 [.ref 120, .int x1] [.int s0] (hp I J (pm_RT pa pb ga)) Q := by
  refine x_b 18 rfl rfl rfl (fun c => ?_) (fun c => ?_)
  · have h := h.1 c
    refine z_k 28 (-1) rfl (by decide) rfl ?_
    exact x_ri rfl (Or.inl rfl) h
  · have h := h.2 c
    refine x_l 19 rfl rfl rfl ?_
    refine z_gf 22 (.ref 142) rfl ⟨rfl, rfl, rfl⟩ rfl rfl ?_
    refine x_l 23 rfl rfl rfl ?_
    have h1 := h.1
    have h := h.2
    refine z_il 24 4001 rfl ⟨rfl, rfl, rfl⟩ rfl h1 rfl ?_
    refine x_g rfl ?_
    exact x_ri rfl (Or.inl rfl) h

theorem bk_Mo_sorts_0 {k : Nat} {pa pb : Nat} {ga : Nat → Nat} {I : pm_II} {J : pm_JJ} {Q : Option Value → pm_H → Prop} {x1 : Int32} {x2 : Int32} {x3 : Int32} (h : Px k 176 m_Mo_is 0 [.int x1, .int 1, .int 26] [] (hp I J (pm_RT pa pb ga)) (fun r h' => h'.1 = 176 ∧ Px (k + 1) 176 m_Mo_sorts 7 [.ref 120, .int x1, .int x2, .int x3] (r.toList ++ []) h' Q)) : Px (k + 1) 176 m_Mo_sorts 0 [.ref 120, .int x1, .int x2, .int x3] [] (hp I J (pm_RT pa pb ga)) Q := by
  refine x_l 1 rfl rfl rfl ?_
  refine z_k 2 1 rfl (by decide) rfl ?_
  refine z_k 4 26 rfl (by decide) rfl ?_
  exact z_cs (As := [.int x1, .int 1, .int 26]) (rest := []) rfl at_Mo_is rfl rfl (Nat.le_of_ble_eq_true rfl) (Nat.le_of_ble_eq_true rfl) rfl h

theorem bk_Mo_sorts_7 {k : Nat} {pa pb : Nat} {ga : Nat → Nat} {I : pm_II} {J : pm_JJ} {Q : Option Value → pm_H → Prop} {x1 : Int32} {x2 : Int32} {x3 : Int32} {s0 : Int32} (h : ((s0 = 0 → Q (some (.int (-1))) (hp I J (pm_RT pa pb ga))) ∧ (¬ (s0 = 0) → Px k 176 m_Mo_is 0 [.int x2, .int 0, .int 99] [] (hp I J (pm_RT pa pb ga)) (fun r h' => h'.1 = 176 ∧ Px (k + 1) 176 m_Mo_sorts 17 [.ref 120, .int x1, .int x2, .int x3] (r.toList ++ []) h' Q)))) : Px (k + 1) 176 m_Mo_sorts 7 [.ref 120, .int x1, .int x2, .int x3] [.int s0] (hp I J (pm_RT pa pb ga)) Q := by
  refine x_b 10 rfl rfl rfl (fun c => ?_) (fun c => ?_)
  · have h := h.1 c
    refine z_k 31 (-1) rfl (by decide) rfl ?_
    exact x_ri rfl (Or.inl rfl) h
  · have h := h.2 c
    refine x_l 11 rfl rfl rfl ?_
    refine z_k 12 0 rfl (by decide) rfl ?_
    refine z_k 14 99 rfl (by decide) rfl ?_
    exact z_cs (As := [.int x2, .int 0, .int 99]) (rest := []) rfl at_Mo_is rfl rfl (Nat.le_of_ble_eq_true rfl) (Nat.le_of_ble_eq_true rfl) rfl h

theorem bk_Mo_sorts_17 {k : Nat} {pa pb : Nat} {ga : Nat → Nat} {I : pm_II} {J : pm_JJ} {Q : Option Value → pm_H → Prop} {x1 : Int32} {x2 : Int32} {x3 : Int32} {s0 : Int32} (h : ((s0 = 0 → Q (some (.int (-1))) (hp I J (pm_RT pa pb ga))) ∧ (¬ (s0 = 0) → Px k 176 m_Mo_is 0 [.int x3, .int 1, .int 20] [] (hp I J (pm_RT pa pb ga)) (fun r h' => h'.1 = 176 ∧ Px (k + 1) 176 m_Mo_sorts 27 [.ref 120, .int x1, .int x2, .int x3] (r.toList ++ []) h' Q)))) : Px (k + 1) 176 m_Mo_sorts 17 [.ref 120, .int x1, .int x2, .int x3] [.int s0] (hp I J (pm_RT pa pb ga)) Q := by
  refine x_b 20 rfl rfl rfl (fun c => ?_) (fun c => ?_)
  · have h := h.1 c
    refine z_k 31 (-1) rfl (by decide) rfl ?_
    exact x_ri rfl (Or.inl rfl) h
  · have h := h.2 c
    refine x_l 21 rfl rfl rfl ?_
    refine z_k 22 1 rfl (by decide) rfl ?_
    refine z_k 24 20 rfl (by decide) rfl ?_
    exact z_cs (As := [.int x3, .int 1, .int 20]) (rest := []) rfl at_Mo_is rfl rfl (Nat.le_of_ble_eq_true rfl) (Nat.le_of_ble_eq_true rfl) rfl h

theorem bk_Mo_sorts_27 {k : Nat} {pa pb : Nat} {ga : Nat → Nat} {I : pm_II} {J : pm_JJ} {Q : Option Value → pm_H → Prop} {x1 : Int32} {x2 : Int32} {x3 : Int32} {s0 : Int32} (h : ((¬ s0 = 0 → vp_in x1 27 ∧ vp_in x1 27 ∧ Q (some (.int 1)) (hp (pm_up (pm_up I 146 ((x1 : Int32).toNatClampNeg) x2) 147 ((x1 : Int32).toNatClampNeg) x3) J (pm_RT pa pb ga))) ∧ (¬ (¬ s0 = 0) → Q (some (.int (-1))) (hp I J (pm_RT pa pb ga))))) : Px (k + 1) 176 m_Mo_sorts 27 [.ref 120, .int x1, .int x2, .int x3] [.int s0] (hp I J (pm_RT pa pb ga)) Q := by
  refine x_b 30 rfl rfl rfl (fun c => ?_) (fun c => ?_)
  · have h := h.1 c
    refine x_l 33 rfl rfl rfl ?_
    refine z_gf 36 (.ref 146) rfl ⟨rfl, rfl, rfl⟩ rfl rfl ?_
    refine x_l 37 rfl rfl rfl ?_
    refine x_l 38 rfl rfl rfl ?_
    have h1 := h.1
    have h := h.2
    refine z_is 39 27 rfl ⟨rfl, rfl, rfl⟩ rfl h1 rfl ?_
    refine x_l 40 rfl rfl rfl ?_
    refine z_gf 43 (.ref 147) rfl ⟨rfl, rfl, rfl⟩ rfl rfl ?_
    refine x_l 44 rfl rfl rfl ?_
    refine x_l 45 rfl rfl rfl ?_
    have h1 := h.1
    have h := h.2
    refine z_is 46 27 rfl ⟨rfl, rfl, rfl⟩ rfl h1 rfl ?_
    refine z_k 47 1 rfl (by decide) rfl ?_
    exact x_ri rfl (Or.inl rfl) h
  · have h := h.2 c
    refine z_k 31 (-1) rfl (by decide) rfl ?_
    exact x_ri rfl (Or.inl rfl) h

theorem bk_Mo_set_0 {k : Nat} {pa pb : Nat} {ga : Nat → Nat} {I : pm_II} {J : pm_JJ} {Q : Option Value → pm_H → Prop} {x1 : Int32} (h : Px k 176 m_Mo_is 0 [.int x1, .int 20, .int 200] [] (hp I J (pm_RT pa pb ga)) (fun r h' => h'.1 = 176 ∧ Px (k + 1) 176 m_Mo_set 9 [.ref 120, .int x1, .null, .null] (r.toList ++ []) h' Q)) : Px (k + 1) 176 m_Mo_set 0 [.ref 120, .int x1, .null, .null] [] (hp I J (pm_RT pa pb ga)) Q := by
  refine x_l 1 rfl rfl rfl ?_
  refine z_k 3 20 rfl (by decide) rfl ?_
  refine z_k 6 200 rfl (by decide) rfl ?_
  exact z_cs (As := [.int x1, .int 20, .int 200]) (rest := []) rfl at_Mo_is rfl rfl (Nat.le_of_ble_eq_true rfl) (Nat.le_of_ble_eq_true rfl) rfl h

theorem bk_Mo_set_9 {k : Nat} {pa pb : Nat} {ga : Nat → Nat} {I : pm_II} {J : pm_JJ} {Q : Option Value → pm_H → Prop} {x1 : Int32} {s0 : Int32} (h : ((¬ s0 = 0 → Px k 176 m_Mo_take 0 [.ref 120, .null] [] (hp I J (pm_RT pa pb ga)) (fun r h' => h'.1 = 176 ∧ Px (k + 1) 176 m_Mo_set 18 [.ref 120, .int x1, .null, .null] (r.toList ++ []) h' Q)) ∧ (¬ (¬ s0 = 0) → Q (some (.int (-1))) (hp I J (pm_RT pa pb ga))))) : Px (k + 1) 176 m_Mo_set 9 [.ref 120, .int x1, .null, .null] [.int s0] (hp I J (pm_RT pa pb ga)) Q := by
  refine x_b 12 rfl rfl rfl (fun c => ?_) (fun c => ?_)
  · have h := h.1 c
    refine x_l 15 rfl rfl rfl ?_
    exact z_cv (As := []) (rest := []) (b := 120) rfl at_Mo_take rfl rfl (Nat.le_of_ble_eq_true rfl) (Nat.le_of_ble_eq_true rfl) ⟨rfl, rfl, rfl⟩ (by decide) rfl h
  · have h := h.2 c
    refine z_k 13 (-1) rfl (by decide) rfl ?_
    exact x_ri rfl (Or.inl rfl) h

theorem bk_Mo_set_18 {k : Nat} {pa pb : Nat} {ga : Nat → Nat} {I : pm_II} {J : pm_JJ} {Q : Option Value → pm_H → Prop} {x1 : Int32} (h : Px (k + 1) 176 m_Mo_set 20 [.ref 120, .int x1, .int 0, .null] [] (hp I J (pm_RT pa pb ga)) Q) : Px (k + 1) 176 m_Mo_set 18 [.ref 120, .int x1, .null, .null] [] (hp I J (pm_RT pa pb ga)) Q := by
  refine z_k 19 0 rfl (by decide) rfl ?_
  refine x_t 20 rfl rfl rfl ?_
  exact h

theorem bk_Mo_set_20 {k : Nat} {pa pb : Nat} {ga : Nat → Nat} {I : pm_II} {J : pm_JJ} {Q : Option Value → pm_H → Prop} {x1 : Int32} {x2 : Int32} (h : Px k 176 m_Mo_bad 0 [.ref 120] [] (hp I J (pm_RT pa pb ga)) (fun r h' => h'.1 = 176 ∧ Px (k + 1) 176 m_Mo_set 24 [.ref 120, .int x1, .int x2, .null] (r.toList ++ []) h' Q)) : Px (k + 1) 176 m_Mo_set 20 [.ref 120, .int x1, .int x2, .null] [] (hp I J (pm_RT pa pb ga)) Q := by
  refine x_l 21 rfl rfl rfl ?_
  exact z_cv (As := []) (rest := []) (b := 120) rfl at_Mo_bad rfl rfl (Nat.le_of_ble_eq_true rfl) (Nat.le_of_ble_eq_true rfl) ⟨rfl, rfl, rfl⟩ (by decide) rfl h

theorem bk_Mo_set_24 {k : Nat} {pa pb : Nat} {ga : Nat → Nat} {I : pm_II} {J : pm_JJ} {Q : Option Value → pm_H → Prop} {x1 : Int32} {x2 : Int32} {s0 : Int32} (h : ((¬ s0 = 0 → Px (k + 1) 176 m_Mo_set 156 [.ref 120, .int x1, .int x2, .null] [] (hp I J (pm_RT pa pb ga)) Q) ∧ (¬ (¬ s0 = 0) → ((x2 = 0 → Px (k + 1) 176 m_Mo_set 40 [.ref 120, .int x1, .int x2, .null] [] (hp I J (pm_RT pa pb ga)) Q) ∧ (¬ (x2 = 0) → Px k 176 m_Mo_here 0 [.ref 120] [] (hp I J (pm_RT pa pb ga)) (fun r h' => h'.1 = 176 ∧ Px (k + 1) 176 m_Mo_set 35 [.ref 120, .int x1, .int x2, .null] (r.toList ++ []) h' Q)))))) : Px (k + 1) 176 m_Mo_set 24 [.ref 120, .int x1, .int x2, .null] [.int s0] (hp I J (pm_RT pa pb ga)) Q := by
  refine x_b 27 rfl rfl rfl (fun c => ?_) (fun c => ?_)
  · have h := h.1 c
    exact h
  · have h := h.2 c
    refine x_l 28 rfl rfl rfl ?_
    refine x_b 31 rfl rfl rfl (fun c => ?_) (fun c => ?_)
    · have h := h.1 c
      exact h
    · have h := h.2 c
      refine x_l 32 rfl rfl rfl ?_
      exact z_cv (As := []) (rest := []) (b := 120) rfl at_Mo_here rfl rfl (Nat.le_of_ble_eq_true rfl) (Nat.le_of_ble_eq_true rfl) ⟨rfl, rfl, rfl⟩ (by decide) rfl h

theorem bk_Mo_set_35 {k : Nat} {pa pb : Nat} {ga : Nat → Nat} {I : pm_II} {J : pm_JJ} {Q : Option Value → pm_H → Prop} {x1 : Int32} {x2 : Int32} {s0 : Int32} (h : ((¬ s0 = 32 → Px (k + 1) 176 m_Mo_set 156 [.ref 120, .int x1, .int x2, .null] [] (hp I J (pm_RT pa pb ga)) Q) ∧ (¬ (¬ s0 = 32) → Px (k + 1) 176 m_Mo_set 40 [.ref 120, .int x1, .int x2, .null] [] (hp I J (pm_RT pa pb ga)) Q))) : Px (k + 1) 176 m_Mo_set 35 [.ref 120, .int x1, .int x2, .null] [.int s0] (hp I J (pm_RT pa pb ga)) Q := by
  refine z_k 37 32 rfl (by decide) rfl ?_
  refine x_b 40 rfl rfl rfl (fun c => ?_) (fun c => ?_)
  · have h := h.1 c
    exact h
  · have h := h.2 c
    exact h

theorem bk_Mo_set_40 {k : Nat} {pa pb : Nat} {ga : Nat → Nat} {I : pm_II} {J : pm_JJ} {Q : Option Value → pm_H → Prop} {x1 : Int32} {x2 : Int32} (h : ((¬ x2 = 12 → ((¬ x2 = 0 → Px (k + 1) 176 m_Mo_set 71 [.ref 120, .int x1, .int x2, .null] [.int 1, .int (I 120 4), .ref 120] (hp I J (pm_RT pa pb ga)) Q) ∧ (¬ (¬ x2 = 0) → Px (k + 1) 176 m_Mo_set 71 [.ref 120, .int x1, .int x2, .null] [.int 0, .int (I 120 4), .ref 120] (hp I J (pm_RT pa pb ga)) Q))) ∧ (¬ (¬ x2 = 12) → Px k 176 m_Mo_fail 0 [.ref 120, .int (I 120 4)] [] (hp I J (pm_RT pa pb ga)) (fun r h' => h'.1 = 176 ∧ Px (k + 1) 176 m_Mo_set 54 [.ref 120, .int x1, .int x2, .null] (r.toList ++ []) h' Q)))) : Px (k + 1) 176 m_Mo_set 40 [.ref 120, .int x1, .int x2, .null] [] (hp I J (pm_RT pa pb ga)) Q := by
  refine x_l 41 rfl rfl rfl ?_
  refine z_k 43 12 rfl (by decide) rfl ?_
  refine x_b 46 rfl rfl rfl (fun c => ?_) (fun c => ?_)
  · have h := h.1 c
    refine x_l 58 rfl rfl rfl ?_
    refine x_s 59 rfl rfl rfl ?_
    refine z_gf 62 (.int (I 120 4)) rfl ⟨rfl, rfl, rfl⟩ rfl rfl ?_
    refine x_l 63 rfl rfl rfl ?_
    refine x_b 66 rfl rfl rfl (fun c => ?_) (fun c => ?_)
    · have h := h.1 c
      refine z_k 71 1 rfl (by decide) rfl ?_
      exact h
    · have h := h.2 c
      refine z_k 67 0 rfl (by decide) rfl ?_
      refine x_g rfl ?_
      exact h
  · have h := h.2 c
    refine x_l 47 rfl rfl rfl ?_
    refine x_l 48 rfl rfl rfl ?_
    refine z_gf 51 (.int (I 120 4)) rfl ⟨rfl, rfl, rfl⟩ rfl rfl ?_
    exact z_cv (As := [.int (I 120 4)]) (rest := []) (b := 120) rfl at_Mo_fail rfl rfl (Nat.le_of_ble_eq_true rfl) (Nat.le_of_ble_eq_true rfl) ⟨rfl, rfl, rfl⟩ (by decide) rfl h

theorem bk_Mo_set_54 {k : Nat} {pa pb : Nat} {ga : Nat → Nat} {I : pm_II} {J : pm_JJ} {Q : Option Value → pm_H → Prop} {x1 : Int32} {x2 : Int32} (h : Px (k + 1) 176 m_Mo_set 20 [.ref 120, .int x1, .int x2, .null] [] (hp I J (pm_RT pa pb ga)) Q) : Px (k + 1) 176 m_Mo_set 54 [.ref 120, .int x1, .int x2, .null] [] (hp I J (pm_RT pa pb ga)) Q := by
  refine x_g rfl ?_
  exact h

theorem bk_Mo_set_71 {k : Nat} {pa pb : Nat} {ga : Nat → Nat} {I : pm_II} {J : pm_JJ} {Q : Option Value → pm_H → Prop} {x1 : Int32} {x2 : Int32} {s1 : Int32} {s2 : Int32} (h : Px k 176 m_Mo_here 0 [.ref 120] [] (hp (pm_up I 120 4 (s1 + s2)) J (pm_RT pa pb ga)) (fun r h' => h'.1 = 176 ∧ Px (k + 1) 176 m_Mo_set 84 [.ref 120, .int x1, .int x2, .int (s1 + s2)] (r.toList ++ []) h' Q)) : Px (k + 1) 176 m_Mo_set 71 [.ref 120, .int x1, .int x2, .null] [.int s2, .int s1, .ref 120] (hp I J (pm_RT pa pb ga)) Q := by
  refine x_s 72 rfl rfl rfl ?_
  refine z_pi 75 rfl (Or.inl rfl) rfl (fun z => by cases z) ⟨rfl, rfl, rfl⟩ rfl ?_
  refine x_l 76 rfl rfl rfl ?_
  refine z_gf 79 (.int (s1 + s2)) rfl ⟨rfl, rfl, rfl⟩ rfl rfl ?_
  refine x_t 80 rfl rfl rfl ?_
  refine x_l 81 rfl rfl rfl ?_
  exact z_cv (As := []) (rest := []) (b := 120) rfl at_Mo_here rfl rfl (Nat.le_of_ble_eq_true rfl) (Nat.le_of_ble_eq_true rfl) ⟨rfl, rfl, rfl⟩ (by decide) rfl h

theorem bk_Mo_set_84 {k : Nat} {pa pb : Nat} {ga : Nat → Nat} {I : pm_II} {J : pm_JJ} {Q : Option Value → pm_H → Prop} {x1 : Int32} {x2 : Int32} {x3 : Int32} {s0 : Int32} (h : Px k 176 m_Mo_isSmall 0 [.int s0] [] (hp I J (pm_RT pa pb ga)) (fun r h' => h'.1 = 176 ∧ Px (k + 1) 176 m_Mo_set 87 [.ref 120, .int x1, .int x2, .int x3] (r.toList ++ []) h' Q)) : Px (k + 1) 176 m_Mo_set 84 [.ref 120, .int x1, .int x2, .int x3] [.int s0] (hp I J (pm_RT pa pb ga)) Q := by
  exact z_cs (As := [.int s0]) (rest := []) rfl at_Mo_isSmall rfl rfl (Nat.le_of_ble_eq_true rfl) (Nat.le_of_ble_eq_true rfl) rfl h

theorem bk_Mo_set_87 {k : Nat} {pa pb : Nat} {ga : Nat → Nat} {I : pm_II} {J : pm_JJ} {Q : Option Value → pm_H → Prop} {x1 : Int32} {x2 : Int32} {x3 : Int32} {s0 : Int32} (h : ((¬ s0 = 0 → Px (k + 1) 176 m_Mo_set 98 [.ref 120, .int x1, .int x2, .int x3] [] (hp I J (pm_RT pa pb ga)) Q) ∧ (¬ (¬ s0 = 0) → Px k 176 m_Mo_fail 0 [.ref 120, .int (I 120 4)] [] (hp I J (pm_RT pa pb ga)) (fun r h' => h'.1 = 176 ∧ Px (k + 1) 176 m_Mo_set 98 [.ref 120, .int x1, .int x2, .int x3] (r.toList ++ []) h' Q)))) : Px (k + 1) 176 m_Mo_set 87 [.ref 120, .int x1, .int x2, .int x3] [.int s0] (hp I J (pm_RT pa pb ga)) Q := by
  refine x_b 90 rfl rfl rfl (fun c => ?_) (fun c => ?_)
  · have h := h.1 c
    exact h
  · have h := h.2 c
    refine x_l 91 rfl rfl rfl ?_
    refine x_l 92 rfl rfl rfl ?_
    refine z_gf 95 (.int (I 120 4)) rfl ⟨rfl, rfl, rfl⟩ rfl rfl ?_
    exact z_cv (As := [.int (I 120 4)]) (rest := []) (b := 120) rfl at_Mo_fail rfl rfl (Nat.le_of_ble_eq_true rfl) (Nat.le_of_ble_eq_true rfl) ⟨rfl, rfl, rfl⟩ (by decide) rfl h

theorem bk_Mo_set_98 {k : Nat} {pa pb : Nat} {ga : Nat → Nat} {I : pm_II} {J : pm_JJ} {Q : Option Value → pm_H → Prop} {x1 : Int32} {x2 : Int32} {x3 : Int32} (h : Px k 176 m_Mo_bad 0 [.ref 120] [] (hp I J (pm_RT pa pb ga)) (fun r h' => h'.1 = 176 ∧ Px (k + 1) 176 m_Mo_set 102 [.ref 120, .int x1, .int x2, .int x3] (r.toList ++ []) h' Q)) : Px (k + 1) 176 m_Mo_set 98 [.ref 120, .int x1, .int x2, .int x3] [] (hp I J (pm_RT pa pb ga)) Q := by
  refine x_l 99 rfl rfl rfl ?_
  exact z_cv (As := []) (rest := []) (b := 120) rfl at_Mo_bad rfl rfl (Nat.le_of_ble_eq_true rfl) (Nat.le_of_ble_eq_true rfl) ⟨rfl, rfl, rfl⟩ (by decide) rfl h

theorem bk_Mo_set_102 {k : Nat} {pa pb : Nat} {ga : Nat → Nat} {I : pm_II} {J : pm_JJ} {Q : Option Value → pm_H → Prop} {x1 : Int32} {x2 : Int32} {x3 : Int32} {s0 : Int32} (h : ((¬ s0 = 0 → Px (k + 1) 176 m_Mo_set 150 [.ref 120, .int x1, .int x2, .int x3] [] (hp I J (pm_RT pa pb ga)) Q) ∧ (¬ (¬ s0 = 0) → Px k 176 m_Mo_here 0 [.ref 120] [] (hp I J (pm_RT pa pb ga)) (fun r h' => h'.1 = 176 ∧ Px (k + 1) 176 m_Mo_set 109 [.ref 120, .int x1, .int x2, .int x3] (r.toList ++ []) h' Q)))) : Px (k + 1) 176 m_Mo_set 102 [.ref 120, .int x1, .int x2, .int x3] [.int s0] (hp I J (pm_RT pa pb ga)) Q := by
  refine x_b 105 rfl rfl rfl (fun c => ?_) (fun c => ?_)
  · have h := h.1 c
    exact h
  · have h := h.2 c
    refine x_l 106 rfl rfl rfl ?_
    exact z_cv (As := []) (rest := []) (b := 120) rfl at_Mo_here rfl rfl (Nat.le_of_ble_eq_true rfl) (Nat.le_of_ble_eq_true rfl) ⟨rfl, rfl, rfl⟩ (by decide) rfl h

theorem bk_Mo_set_109 {k : Nat} {pa pb : Nat} {ga : Nat → Nat} {I : pm_II} {J : pm_JJ} {Q : Option Value → pm_H → Prop} {x1 : Int32} {x2 : Int32} {x3 : Int32} {s0 : Int32} (h : Px k 176 m_Mo_isSmall 0 [.int s0] [] (hp I J (pm_RT pa pb ga)) (fun r h' => h'.1 = 176 ∧ Px (k + 1) 176 m_Mo_set 112 [.ref 120, .int x1, .int x2, .int x3] (r.toList ++ []) h' Q)) : Px (k + 1) 176 m_Mo_set 109 [.ref 120, .int x1, .int x2, .int x3] [.int s0] (hp I J (pm_RT pa pb ga)) Q := by
  exact z_cs (As := [.int s0]) (rest := []) rfl at_Mo_isSmall rfl rfl (Nat.le_of_ble_eq_true rfl) (Nat.le_of_ble_eq_true rfl) rfl h

theorem bk_Mo_set_112 {k : Nat} {pa pb : Nat} {ga : Nat → Nat} {I : pm_II} {J : pm_JJ} {Q : Option Value → pm_H → Prop} {x1 : Int32} {x2 : Int32} {x3 : Int32} {s0 : Int32} (h : ((s0 = 0 → Px (k + 1) 176 m_Mo_set 150 [.ref 120, .int x1, .int x2, .int x3] [] (hp I J (pm_RT pa pb ga)) Q) ∧ (¬ (s0 = 0) → ((¬ ((I 120 4) - x3) = 12 → Px (k + 1) 176 m_Mo_set 98 [.ref 120, .int x1, .int x2, .int x3] [] (hp (pm_up I 120 4 ((I 120 4) + (1 : Int32))) J (pm_RT pa pb ga)) Q) ∧ (¬ (¬ ((I 120 4) - x3) = 12) → Px k 176 m_Mo_fail 0 [.ref 120, .int (I 120 4)] [] (hp I J (pm_RT pa pb ga)) (fun r h' => h'.1 = 176 ∧ Px (k + 1) 176 m_Mo_set 134 [.ref 120, .int x1, .int x2, .int x3] (r.toList ++ []) h' Q)))))) : Px (k + 1) 176 m_Mo_set 112 [.ref 120, .int x1, .int x2, .int x3] [.int s0] (hp I J (pm_RT pa pb ga)) Q := by
  refine x_b 115 rfl rfl rfl (fun c => ?_) (fun c => ?_)
  · have h := h.1 c
    exact h
  · have h := h.2 c
    refine x_l 116 rfl rfl rfl ?_
    refine z_gf 119 (.int (I 120 4)) rfl ⟨rfl, rfl, rfl⟩ rfl rfl ?_
    refine x_l 120 rfl rfl rfl ?_
    refine x_s 121 rfl rfl rfl ?_
    refine z_k 123 12 rfl (by decide) rfl ?_
    refine x_b 126 rfl rfl rfl (fun c => ?_) (fun c => ?_)
    · have h := h.1 c
      refine x_l 138 rfl rfl rfl ?_
      refine x_s 139 rfl rfl rfl ?_
      refine z_gf 142 (.int (I 120 4)) rfl ⟨rfl, rfl, rfl⟩ rfl rfl ?_
      refine z_k 143 1 rfl (by decide) rfl ?_
      refine x_s 144 rfl rfl rfl ?_
      refine z_pi 147 rfl (Or.inl rfl) rfl (fun z => by cases z) ⟨rfl, rfl, rfl⟩ rfl ?_
      refine x_g rfl ?_
      exact h
    · have h := h.2 c
      refine x_l 127 rfl rfl rfl ?_
      refine x_l 128 rfl rfl rfl ?_
      refine z_gf 131 (.int (I 120 4)) rfl ⟨rfl, rfl, rfl⟩ rfl rfl ?_
      exact z_cv (As := [.int (I 120 4)]) (rest := []) (b := 120) rfl at_Mo_fail rfl rfl (Nat.le_of_ble_eq_true rfl) (Nat.le_of_ble_eq_true rfl) ⟨rfl, rfl, rfl⟩ (by decide) rfl h

theorem bk_Mo_set_134 {k : Nat} {pa pb : Nat} {ga : Nat → Nat} {I : pm_II} {J : pm_JJ} {Q : Option Value → pm_H → Prop} {x1 : Int32} {x2 : Int32} {x3 : Int32} (h : Px (k + 1) 176 m_Mo_set 98 [.ref 120, .int x1, .int x2, .int x3] [] (hp I J (pm_RT pa pb ga)) Q) : Px (k + 1) 176 m_Mo_set 134 [.ref 120, .int x1, .int x2, .int x3] [] (hp I J (pm_RT pa pb ga)) Q := by
  refine x_g rfl ?_
  exact h

theorem bk_Mo_set_150 {k : Nat} {pa pb : Nat} {ga : Nat → Nat} {I : pm_II} {J : pm_JJ} {Q : Option Value → pm_H → Prop} {x1 : Int32} {x2 : Int32} {x3 : Int32} (h : Px (k + 1) 176 m_Mo_set 20 [.ref 120, .int x1, .int (x2 + Int32.ofInt 1), .int x3] [] (hp I J (pm_RT pa pb ga)) Q) : Px (k + 1) 176 m_Mo_set 150 [.ref 120, .int x1, .int x2, .int x3] [] (hp I J (pm_RT pa pb ga)) Q := by
  refine x_t 153 rfl rfl rfl ?_
  refine x_g rfl ?_
  exact h

theorem bk_Mo_set_156 {k : Nat} {pa pb : Nat} {ga : Nat → Nat} {I : pm_II} {J : pm_JJ} {Q : Option Value → pm_H → Prop} {x1 : Int32} {x2 : Int32} (h : Px k 176 m_Mo_need 0 [.ref 120, .int 10] [] (hp I J (pm_RT pa pb ga)) (fun r h' => h'.1 = 176 ∧ Px (k + 1) 176 m_Mo_set 162 [.ref 120, .int x1, .int x2, .null] (r.toList ++ []) h' Q)) : Px (k + 1) 176 m_Mo_set 156 [.ref 120, .int x1, .int x2, .null] [] (hp I J (pm_RT pa pb ga)) Q := by
  refine x_l 157 rfl rfl rfl ?_
  refine z_k 159 10 rfl (by decide) rfl ?_
  exact z_cv (As := [.int 10]) (rest := []) (b := 120) rfl at_Mo_need rfl rfl (Nat.le_of_ble_eq_true rfl) (Nat.le_of_ble_eq_true rfl) ⟨rfl, rfl, rfl⟩ (by decide) rfl h

theorem bk_Mo_set_162 {k : Nat} {pa pb : Nat} {ga : Nat → Nat} {I : pm_II} {J : pm_JJ} {Q : Option Value → pm_H → Prop} {x1 : Int32} {x2 : Int32} (h : Px k 176 m_Mo_bad 0 [.ref 120] [] (hp I J (pm_RT pa pb ga)) (fun r h' => h'.1 = 176 ∧ Px (k + 1) 176 m_Mo_set 166 [.ref 120, .int x1, .int x2, .null] (r.toList ++ []) h' Q)) : Px (k + 1) 176 m_Mo_set 162 [.ref 120, .int x1, .int x2, .null] [] (hp I J (pm_RT pa pb ga)) Q := by
  refine x_l 163 rfl rfl rfl ?_
  exact z_cv (As := []) (rest := []) (b := 120) rfl at_Mo_bad rfl rfl (Nat.le_of_ble_eq_true rfl) (Nat.le_of_ble_eq_true rfl) ⟨rfl, rfl, rfl⟩ (by decide) rfl h

theorem bk_Mo_set_166 {k : Nat} {pa pb : Nat} {ga : Nat → Nat} {I : pm_II} {J : pm_JJ} {Q : Option Value → pm_H → Prop} {x1 : Int32} {x2 : Int32} {s0 : Int32} (h : ((¬ s0 = 0 → Px (k + 1) 176 m_Mo_set 188 [.ref 120, .int x1, .int x2, .null] [] (hp I J (pm_RT pa pb ga)) Q) ∧ (¬ (¬ s0 = 0) → (((I 120 3) ≤ (I 120 4) → Px (k + 1) 176 m_Mo_set 188 [.ref 120, .int x1, .int x2, .null] [] (hp I J (pm_RT pa pb ga)) Q) ∧ (¬ ((I 120 3) ≤ (I 120 4)) → Px k 176 m_Mo_fail 0 [.ref 120, .int (I 120 4)] [] (hp I J (pm_RT pa pb ga)) (fun r h' => h'.1 = 176 ∧ Px (k + 1) 176 m_Mo_set 188 [.ref 120, .int x1, .int x2, .null] (r.toList ++ []) h' Q)))))) : Px (k + 1) 176 m_Mo_set 166 [.ref 120, .int x1, .int x2, .null] [.int s0] (hp I J (pm_RT pa pb ga)) Q := by
  refine x_b 169 rfl rfl rfl (fun c => ?_) (fun c => ?_)
  · have h := h.1 c
    exact h
  · have h := h.2 c
    refine x_l 170 rfl rfl rfl ?_
    refine z_gf 173 (.int (I 120 4)) rfl ⟨rfl, rfl, rfl⟩ rfl rfl ?_
    refine x_l 174 rfl rfl rfl ?_
    refine z_gf 177 (.int (I 120 3)) rfl ⟨rfl, rfl, rfl⟩ rfl rfl ?_
    refine x_b 180 rfl rfl rfl (fun c => ?_) (fun c => ?_)
    · have h := h.1 c
      exact h
    · have h := h.2 c
      refine x_l 181 rfl rfl rfl ?_
      refine x_l 182 rfl rfl rfl ?_
      refine z_gf 185 (.int (I 120 4)) rfl ⟨rfl, rfl, rfl⟩ rfl rfl ?_
      exact z_cv (As := [.int (I 120 4)]) (rest := []) (b := 120) rfl at_Mo_fail rfl rfl (Nat.le_of_ble_eq_true rfl) (Nat.le_of_ble_eq_true rfl) ⟨rfl, rfl, rfl⟩ (by decide) rfl h

theorem bk_Mo_set_188 {k : Nat} {pa pb : Nat} {ga : Nat → Nat} {I : pm_II} {J : pm_JJ} {Q : Option Value → pm_H → Prop} {x1 : Int32} {x2 : Int32} (h : Px k 176 m_Mo_bad 0 [.ref 120] [] (hp I J (pm_RT pa pb ga)) (fun r h' => h'.1 = 176 ∧ Px (k + 1) 176 m_Mo_set 192 [.ref 120, .int x1, .int x2, .null] (r.toList ++ []) h' Q)) : Px (k + 1) 176 m_Mo_set 188 [.ref 120, .int x1, .int x2, .null] [] (hp I J (pm_RT pa pb ga)) Q := by
  refine x_l 189 rfl rfl rfl ?_
  exact z_cv (As := []) (rest := []) (b := 120) rfl at_Mo_bad rfl rfl (Nat.le_of_ble_eq_true rfl) (Nat.le_of_ble_eq_true rfl) ⟨rfl, rfl, rfl⟩ (by decide) rfl h

theorem bk_Mo_set_192 {k : Nat} {pa pb : Nat} {ga : Nat → Nat} {I : pm_II} {J : pm_JJ} {Q : Option Value → pm_H → Prop} {x1 : Int32} {x2 : Int32} {s0 : Int32} (h : ((s0 = 0 → Px k 176 m_Mo_laid 0 [.ref 120, .int x1, .null, .null, .null] [] (hp I J (pm_RT pa pb ga)) (fun r h' => h'.1 = 176 ∧ Px (k + 1) 176 m_Mo_set 209 [.ref 120, .int x1, .int x2, .null] (r.toList ++ []) h' Q)) ∧ (¬ (s0 = 0) → Q (some (.int (((-1000) : Int32) - (I 120 5)))) (hp I J (pm_RT pa pb ga))))) : Px (k + 1) 176 m_Mo_set 192 [.ref 120, .int x1, .int x2, .null] [.int s0] (hp I J (pm_RT pa pb ga)) Q := by
  refine x_b 195 rfl rfl rfl (fun c => ?_) (fun c => ?_)
  · have h := h.1 c
    refine x_l 205 rfl rfl rfl ?_
    refine x_l 206 rfl rfl rfl ?_
    exact z_cv (As := [.int x1]) (rest := []) (b := 120) rfl at_Mo_laid rfl rfl (Nat.le_of_ble_eq_true rfl) (Nat.le_of_ble_eq_true rfl) ⟨rfl, rfl, rfl⟩ (by decide) rfl h
  · have h := h.2 c
    refine z_k 198 (-1000) rfl (by decide) rfl ?_
    refine x_l 199 rfl rfl rfl ?_
    refine z_gf 202 (.int (I 120 5)) rfl ⟨rfl, rfl, rfl⟩ rfl rfl ?_
    refine x_s 203 rfl rfl rfl ?_
    exact x_ri rfl (Or.inl rfl) h

theorem bk_Mo_set_209 {k : Nat} {pa pb : Nat} {ga : Nat → Nat} {I : pm_II} {J : pm_JJ} {Q : Option Value → pm_H → Prop} {x1 : Int32} {x2 : Int32} {s0 : Int32} (h : Q (some (.int s0)) (hp I J (pm_RT pa pb ga))) : Px (k + 1) 176 m_Mo_set 209 [.ref 120, .int x1, .int x2, .null] [.int s0] (hp I J (pm_RT pa pb ga)) Q := by
  exact x_ri rfl (Or.inl rfl) h

theorem bk_Mo_laid_0 {k : Nat} {pa pb : Nat} {ga : Nat → Nat} {I : pm_II} {J : pm_JJ} {Q : Option Value → pm_H → Prop} {x1 : Int32} (h : Px (k + 1) 176 m_Mo_laid 2 [.ref 120, .int x1, .int 1, .null, .null] [] (hp I J (pm_RT pa pb ga)) Q) : Px (k + 1) 176 m_Mo_laid 0 [.ref 120, .int x1, .null, .null, .null] [] (hp I J (pm_RT pa pb ga)) Q := by
  refine z_k 1 1 rfl (by decide) rfl ?_
  refine x_t 2 rfl rfl rfl ?_
  exact h

theorem bk_Mo_laid_2 {k : Nat} {pa pb : Nat} {ga : Nat → Nat} {I : pm_II} {J : pm_JJ} {Q : Option Value → pm_H → Prop} {x1 : Int32} {x2 : Int32} (h : ((26 < x2 → Px (k + 1) 176 m_Mo_laid 23 [.ref 120, .int x1, .int 0, .null, .null] [] (hp I J (pm_RT pa pb ga)) Q) ∧ (¬ (26 < x2) → vp_in x2 27 ∧ Px (k + 1) 176 m_Mo_laid 2 [.ref 120, .int x1, .int (x2 + Int32.ofInt 1), .null, .null] [] (hp (pm_up I 148 ((x2 : Int32).toNatClampNeg) 0) J (pm_RT pa pb ga)) Q))) : Px (k + 1) 176 m_Mo_laid 2 [.ref 120, .int x1, .int x2, .null, .null] [] (hp I J (pm_RT pa pb ga)) Q := by
  refine x_l 3 rfl rfl rfl ?_
  refine z_k 5 26 rfl (by decide) rfl ?_
  refine x_b 8 rfl rfl rfl (fun c => ?_) (fun c => ?_)
  · have h := h.1 c
    refine z_k 22 0 rfl (by decide) rfl ?_
    refine x_t 23 rfl rfl rfl ?_
    exact h
  · have h := h.2 c
    refine x_l 9 rfl rfl rfl ?_
    refine z_gf 12 (.ref 148) rfl ⟨rfl, rfl, rfl⟩ rfl rfl ?_
    refine x_l 13 rfl rfl rfl ?_
    refine z_k 14 0 rfl (by decide) rfl ?_
    have h1 := h.1
    have h := h.2
    refine z_is 15 27 rfl ⟨rfl, rfl, rfl⟩ rfl h1 rfl ?_
    refine x_t 18 rfl rfl rfl ?_
    refine x_g rfl ?_
    exact h

theorem bk_Mo_laid_23 {k : Nat} {pa pb : Nat} {ga : Nat → Nat} {I : pm_II} {J : pm_JJ} {Q : Option Value → pm_H → Prop} {x1 : Int32} {x2 : Int32} (h : (((I 120 3) ≤ x2 → Px (k + 1) 176 m_Mo_laid 69 [.ref 120, .int x1, .int 1, .null, .null] [] (hp I J (pm_RT pa pb ga)) Q) ∧ (¬ ((I 120 3) ≤ x2) → vp_in x2 1600 ∧ Px k 176 m_Mo_isSmall 0 [.int (I 122 ((x2 : Int32).toNatClampNeg))] [] (hp I J (pm_RT pa pb ga)) (fun r h' => h'.1 = 176 ∧ Px (k + 1) 176 m_Mo_laid 40 [.ref 120, .int x1, .int x2, .null, .null] (r.toList ++ []) h' Q)))) : Px (k + 1) 176 m_Mo_laid 23 [.ref 120, .int x1, .int x2, .null, .null] [] (hp I J (pm_RT pa pb ga)) Q := by
  refine x_l 24 rfl rfl rfl ?_
  refine x_l 25 rfl rfl rfl ?_
  refine z_gf 28 (.int (I 120 3)) rfl ⟨rfl, rfl, rfl⟩ rfl rfl ?_
  refine x_b 31 rfl rfl rfl (fun c => ?_) (fun c => ?_)
  · have h := h.1 c
    refine z_k 68 1 rfl (by decide) rfl ?_
    refine x_t 69 rfl rfl rfl ?_
    exact h
  · have h := h.2 c
    refine x_l 32 rfl rfl rfl ?_
    refine z_gf 35 (.ref 122) rfl ⟨rfl, rfl, rfl⟩ rfl rfl ?_
    refine x_l 36 rfl rfl rfl ?_
    have h1 := h.1
    have h := h.2
    refine z_il 37 1600 rfl ⟨rfl, rfl, rfl⟩ rfl h1 rfl ?_
    exact z_cs (As := [.int (I 122 ((x2 : Int32).toNatClampNeg))]) (rest := []) rfl at_Mo_isSmall rfl rfl (Nat.le_of_ble_eq_true rfl) (Nat.le_of_ble_eq_true rfl) rfl h

theorem bk_Mo_laid_40 {k : Nat} {pa pb : Nat} {ga : Nat → Nat} {I : pm_II} {J : pm_JJ} {Q : Option Value → pm_H → Prop} {x1 : Int32} {x2 : Int32} {s0 : Int32} (h : ((s0 = 0 → Px (k + 1) 176 m_Mo_laid 23 [.ref 120, .int x1, .int (x2 + Int32.ofInt 1), .null, .null] [] (hp I J (pm_RT pa pb ga)) Q) ∧ (¬ (s0 = 0) → vp_in x2 1600 ∧ vp_in ((I 122 ((x2 : Int32).toNatClampNeg)) - (96 : Int32)) 27 ∧ vp_in ((I 122 ((x2 : Int32).toNatClampNeg)) - (96 : Int32)) 27 ∧ Px (k + 1) 176 m_Mo_laid 23 [.ref 120, .int x1, .int (x2 + Int32.ofInt 1), .null, .null] [] (hp (pm_up I 148 ((((I 122 ((x2 : Int32).toNatClampNeg)) - (96 : Int32)) : Int32).toNatClampNeg) ((I 148 ((((I 122 ((x2 : Int32).toNatClampNeg)) - (96 : Int32)) : Int32).toNatClampNeg)) + (1 : Int32))) J (pm_RT pa pb ga)) Q))) : Px (k + 1) 176 m_Mo_laid 40 [.ref 120, .int x1, .int x2, .null, .null] [.int s0] (hp I J (pm_RT pa pb ga)) Q := by
  refine x_b 43 rfl rfl rfl (fun c => ?_) (fun c => ?_)
  · have h := h.1 c
    refine x_t 64 rfl rfl rfl ?_
    refine x_g rfl ?_
    exact h
  · have h := h.2 c
    refine x_l 44 rfl rfl rfl ?_
    refine z_gf 47 (.ref 148) rfl ⟨rfl, rfl, rfl⟩ rfl rfl ?_
    refine x_l 48 rfl rfl rfl ?_
    refine z_gf 51 (.ref 122) rfl ⟨rfl, rfl, rfl⟩ rfl rfl ?_
    refine x_l 52 rfl rfl rfl ?_
    have h1 := h.1
    have h := h.2
    refine z_il 53 1600 rfl ⟨rfl, rfl, rfl⟩ rfl h1 rfl ?_
    refine z_k 55 96 rfl (by decide) rfl ?_
    refine x_s 56 rfl rfl rfl ?_
    refine x_s 57 rfl rfl rfl ?_
    have h1 := h.1
    have h := h.2
    refine z_il 58 27 rfl ⟨rfl, rfl, rfl⟩ rfl h1 rfl ?_
    refine z_k 59 1 rfl (by decide) rfl ?_
    refine x_s 60 rfl rfl rfl ?_
    have h1 := h.1
    have h := h.2
    refine z_is 61 27 rfl ⟨rfl, rfl, rfl⟩ rfl h1 rfl ?_
    refine x_t 64 rfl rfl rfl ?_
    refine x_g rfl ?_
    exact h

theorem bk_Mo_laid_69 {k : Nat} {pa pb : Nat} {ga : Nat → Nat} {I : pm_II} {J : pm_JJ} {Q : Option Value → pm_H → Prop} {x1 : Int32} {x2 : Int32} (h : ((26 < x2 → Px (k + 1) 176 m_Mo_laid 105 [.ref 120, .int x1, .int (I 120 56), .int 0, .null] [] (hp I J (pm_RT pa pb ga)) Q) ∧ (¬ (26 < x2) → vp_in x2 27 ∧ vp_in x2 27 ∧ (((I 148 ((x2 : Int32).toNatClampNeg)) ≤ (I 146 ((x2 : Int32).toNatClampNeg)) → Px (k + 1) 176 m_Mo_laid 69 [.ref 120, .int x1, .int (x2 + Int32.ofInt 1), .null, .null] [] (hp I J (pm_RT pa pb ga)) Q) ∧ (¬ ((I 148 ((x2 : Int32).toNatClampNeg)) ≤ (I 146 ((x2 : Int32).toNatClampNeg))) → Q (some (.int 0)) (hp I J (pm_RT pa pb ga))))))) : Px (k + 1) 176 m_Mo_laid 69 [.ref 120, .int x1, .int x2, .null, .null] [] (hp I J (pm_RT pa pb ga)) Q := by
  refine x_l 70 rfl rfl rfl ?_
  refine z_k 72 26 rfl (by decide) rfl ?_
  refine x_b 75 rfl rfl rfl (fun c => ?_) (fun c => ?_)
  · have h := h.1 c
    refine x_l 99 rfl rfl rfl ?_
    refine z_gf 102 (.int (I 120 56)) rfl ⟨rfl, rfl, rfl⟩ rfl rfl ?_
    refine x_t 103 rfl rfl rfl ?_
    refine z_k 104 0 rfl (by decide) rfl ?_
    refine x_t 105 rfl rfl rfl ?_
    exact h
  · have h := h.2 c
    refine x_l 76 rfl rfl rfl ?_
    refine z_gf 79 (.ref 148) rfl ⟨rfl, rfl, rfl⟩ rfl rfl ?_
    refine x_l 80 rfl rfl rfl ?_
    have h1 := h.1
    have h := h.2
    refine z_il 81 27 rfl ⟨rfl, rfl, rfl⟩ rfl h1 rfl ?_
    refine x_l 82 rfl rfl rfl ?_
    refine z_gf 85 (.ref 146) rfl ⟨rfl, rfl, rfl⟩ rfl rfl ?_
    refine x_l 86 rfl rfl rfl ?_
    have h1 := h.1
    have h := h.2
    refine z_il 87 27 rfl ⟨rfl, rfl, rfl⟩ rfl h1 rfl ?_
    refine x_b 90 rfl rfl rfl (fun c => ?_) (fun c => ?_)
    · have h := h.1 c
      refine x_t 95 rfl rfl rfl ?_
      refine x_g rfl ?_
      exact h
    · have h := h.2 c
      refine z_k 91 0 rfl (by decide) rfl ?_
      exact x_ri rfl (Or.inl rfl) h

theorem bk_Mo_laid_105 {k : Nat} {pa pb : Nat} {ga : Nat → Nat} {I : pm_II} {J : pm_JJ} {Q : Option Value → pm_H → Prop} {x1 : Int32} {x2 : Int32} {x3 : Int32} (h : (((I 120 3) ≤ x3 → Px (k + 1) 176 m_Mo_laid 161 [.ref 120, .int x1, .int x2, .int x3, .int 1] [] (hp I J (pm_RT pa pb ga)) Q) ∧ (¬ ((I 120 3) ≤ x3) → (((I 120 56) = 16 → Px (k + 1) 176 m_Mo_laid 131 [.ref 120, .int x1, .int x2, .int x3, .null] [] (hp I J (pm_RT pa pb ga)) Q) ∧ (¬ ((I 120 56) = 16) → Px k 176 m_Mo_wordWidth 0 [.ref 120, .int x3, .null, .null] [] (hp I J (pm_RT pa pb ga)) (fun r h' => h'.1 = 176 ∧ Px (k + 1) 176 m_Mo_laid 127 [.ref 120, .int x1, .int x2, .int x3, .null] (r.toList ++ []) h' Q)))))) : Px (k + 1) 176 m_Mo_laid 105 [.ref 120, .int x1, .int x2, .int x3, .null] [] (hp I J (pm_RT pa pb ga)) Q := by
  refine x_l 106 rfl rfl rfl ?_
  refine x_l 107 rfl rfl rfl ?_
  refine z_gf 110 (.int (I 120 3)) rfl ⟨rfl, rfl, rfl⟩ rfl rfl ?_
  refine x_b 113 rfl rfl rfl (fun c => ?_) (fun c => ?_)
  · have h := h.1 c
    refine z_k 159 1 rfl (by decide) rfl ?_
    refine x_t 161 rfl rfl rfl ?_
    exact h
  · have h := h.2 c
    refine x_l 114 rfl rfl rfl ?_
    refine z_gf 117 (.int (I 120 56)) rfl ⟨rfl, rfl, rfl⟩ rfl rfl ?_
    refine z_k 119 16 rfl (by decide) rfl ?_
    refine x_b 122 rfl rfl rfl (fun c => ?_) (fun c => ?_)
    · have h := h.1 c
      exact h
    · have h := h.2 c
      refine x_l 123 rfl rfl rfl ?_
      refine x_l 124 rfl rfl rfl ?_
      exact z_cv (As := [.int x3]) (rest := []) (b := 120) rfl at_Mo_wordWidth rfl rfl (Nat.le_of_ble_eq_true rfl) (Nat.le_of_ble_eq_true rfl) ⟨rfl, rfl, rfl⟩ (by decide) rfl h

theorem bk_Mo_laid_127 {k : Nat} {pa pb : Nat} {ga : Nat → Nat} {I : pm_II} {J : pm_JJ} {Q : Option Value → pm_H → Prop} {x1 : Int32} {x2 : Int32} {x3 : Int32} {s0 : Int32} (h : ((s0 ≤ x1 → Px k 176 m_Mo_lineFrom 0 [.ref 120, .int x3, .int x1, .null, .null, .null, .null, .null, .null, .null] [] (hp I J (pm_RT pa pb ga)) (fun r h' => h'.1 = 176 ∧ Px (k + 1) 176 m_Mo_laid 144 [.ref 120, .int x1, .int x2, .int x3, .null] (r.toList ++ []) h' Q)) ∧ (¬ (s0 ≤ x1) → Px (k + 1) 176 m_Mo_laid 131 [.ref 120, .int x1, .int x2, .int x3, .null] [] (hp I J (pm_RT pa pb ga)) Q))) : Px (k + 1) 176 m_Mo_laid 127 [.ref 120, .int x1, .int x2, .int x3, .null] [.int s0] (hp I J (pm_RT pa pb ga)) Q := by
  refine x_l 128 rfl rfl rfl ?_
  refine x_b 131 rfl rfl rfl (fun c => ?_) (fun c => ?_)
  · have h := h.1 c
    refine x_l 139 rfl rfl rfl ?_
    refine x_l 140 rfl rfl rfl ?_
    refine x_l 141 rfl rfl rfl ?_
    exact z_cv (As := [.int x3, .int x1]) (rest := []) (b := 120) rfl at_Mo_lineFrom rfl rfl (Nat.le_of_ble_eq_true rfl) (Nat.le_of_ble_eq_true rfl) ⟨rfl, rfl, rfl⟩ (by decide) rfl h
  · have h := h.2 c
    exact h

theorem bk_Mo_laid_131 {k : Nat} {pa pb : Nat} {ga : Nat → Nat} {I : pm_II} {J : pm_JJ} {Q : Option Value → pm_H → Prop} {x1 : Int32} {x2 : Int32} {x3 : Int32} (h : Q (some (.int 0)) (hp (pm_up I 120 56 x2) J (pm_RT pa pb ga))) : Px (k + 1) 176 m_Mo_laid 131 [.ref 120, .int x1, .int x2, .int x3, .null] [] (hp I J (pm_RT pa pb ga)) Q := by
  refine x_l 132 rfl rfl rfl ?_
  refine x_l 133 rfl rfl rfl ?_
  refine z_pi 136 rfl (Or.inl rfl) rfl (fun z => by cases z) ⟨rfl, rfl, rfl⟩ rfl ?_
  refine z_k 137 0 rfl (by decide) rfl ?_
  exact x_ri rfl (Or.inl rfl) h

theorem bk_Mo_laid_144 {k : Nat} {pa pb : Nat} {ga : Nat → Nat} {I : pm_II} {J : pm_JJ} {Q : Option Value → pm_H → Prop} {x1 : Int32} {x2 : Int32} {x3 : Int32} {s0 : Int32} (h : Px (k + 1) 176 m_Mo_laid 105 [.ref 120, .int x1, .int x2, .int s0, .null] [] (hp (pm_up I 120 56 ((I 120 56) + (1 : Int32))) J (pm_RT pa pb ga)) Q) : Px (k + 1) 176 m_Mo_laid 144 [.ref 120, .int x1, .int x2, .int x3, .null] [.int s0] (hp I J (pm_RT pa pb ga)) Q := by
  refine x_t 145 rfl rfl rfl ?_
  refine x_l 146 rfl rfl rfl ?_
  refine x_s 147 rfl rfl rfl ?_
  refine z_gf 150 (.int (I 120 56)) rfl ⟨rfl, rfl, rfl⟩ rfl rfl ?_
  refine z_k 151 1 rfl (by decide) rfl ?_
  refine x_s 152 rfl rfl rfl ?_
  refine z_pi 155 rfl (Or.inl rfl) rfl (fun z => by cases z) ⟨rfl, rfl, rfl⟩ rfl ?_
  refine x_g rfl ?_
  exact h

theorem bk_Mo_laid_161 {k : Nat} {pa pb : Nat} {ga : Nat → Nat} {I : pm_II} {J : pm_JJ} {Q : Option Value → pm_H → Prop} {x1 : Int32} {x2 : Int32} {x3 : Int32} {x4 : Int32} (h : ((26 < x4 → Q (some (.int ((I 120 56) - x2))) (hp I J (pm_RT pa pb ga))) ∧ (¬ (26 < x4) → vp_in x4 27 ∧ vp_in x4 27 ∧ vp_in x4 27 ∧ Px (k + 1) 176 m_Mo_laid 161 [.ref 120, .int x1, .int x2, .int x3, .int (x4 + Int32.ofInt 1)] [] (hp (pm_up I 146 ((x4 : Int32).toNatClampNeg) ((I 146 ((x4 : Int32).toNatClampNeg)) - (I 148 ((x4 : Int32).toNatClampNeg)))) J (pm_RT pa pb ga)) Q))) : Px (k + 1) 176 m_Mo_laid 161 [.ref 120, .int x1, .int x2, .int x3, .int x4] [] (hp I J (pm_RT pa pb ga)) Q := by
  refine x_l 163 rfl rfl rfl ?_
  refine z_k 165 26 rfl (by decide) rfl ?_
  refine x_b 168 rfl rfl rfl (fun c => ?_) (fun c => ?_)
  · have h := h.1 c
    refine x_l 192 rfl rfl rfl ?_
    refine z_gf 195 (.int (I 120 56)) rfl ⟨rfl, rfl, rfl⟩ rfl rfl ?_
    refine x_l 196 rfl rfl rfl ?_
    refine x_s 197 rfl rfl rfl ?_
    exact x_ri rfl (Or.inl rfl) h
  · have h := h.2 c
    refine x_l 169 rfl rfl rfl ?_
    refine z_gf 172 (.ref 146) rfl ⟨rfl, rfl, rfl⟩ rfl rfl ?_
    refine x_l 174 rfl rfl rfl ?_
    refine x_s 175 rfl rfl rfl ?_
    have h1 := h.1
    have h := h.2
    refine z_il 176 27 rfl ⟨rfl, rfl, rfl⟩ rfl h1 rfl ?_
    refine x_l 177 rfl rfl rfl ?_
    refine z_gf 180 (.ref 148) rfl ⟨rfl, rfl, rfl⟩ rfl rfl ?_
    refine x_l 182 rfl rfl rfl ?_
    have h1 := h.1
    have h := h.2
    refine z_il 183 27 rfl ⟨rfl, rfl, rfl⟩ rfl h1 rfl ?_
    refine x_s 184 rfl rfl rfl ?_
    have h1 := h.1
    have h := h.2
    refine z_is 185 27 rfl ⟨rfl, rfl, rfl⟩ rfl h1 rfl ?_
    refine x_t 188 rfl rfl rfl ?_
    refine x_g rfl ?_
    exact h

theorem bk_Mo_wordWidth_0 {k : Nat} {pa pb : Nat} {ga : Nat → Nat} {I : pm_II} {J : pm_JJ} {Q : Option Value → pm_H → Prop} {x1 : Int32} (h : Px (k + 1) 176 m_Mo_wordWidth 4 [.ref 120, .int x1, .int 0, .int x1] [] (hp I J (pm_RT pa pb ga)) Q) : Px (k + 1) 176 m_Mo_wordWidth 0 [.ref 120, .int x1, .null, .null] [] (hp I J (pm_RT pa pb ga)) Q := by
  refine z_k 1 0 rfl (by decide) rfl ?_
  refine x_t 2 rfl rfl rfl ?_
  refine x_l 3 rfl rfl rfl ?_
  refine x_t 4 rfl rfl rfl ?_
  exact h

theorem bk_Mo_wordWidth_4 {k : Nat} {pa pb : Nat} {ga : Nat → Nat} {I : pm_II} {J : pm_JJ} {Q : Option Value → pm_H → Prop} {x1 : Int32} {x2 : Int32} {x3 : Int32} (h : (((I 120 3) ≤ x3 → Px (k + 1) 176 m_Mo_wordWidth 47 [.ref 120, .int x1, .int x2, .int x3] [] (hp I J (pm_RT pa pb ga)) Q) ∧ (¬ ((I 120 3) ≤ x3) → vp_in x3 1600 ∧ Px k 176 m_Mo_isSmall 0 [.int (I 122 ((x3 : Int32).toNatClampNeg))] [] (hp I J (pm_RT pa pb ga)) (fun r h' => h'.1 = 176 ∧ Px (k + 1) 176 m_Mo_wordWidth 21 [.ref 120, .int x1, .int x2, .int x3] (r.toList ++ []) h' Q)))) : Px (k + 1) 176 m_Mo_wordWidth 4 [.ref 120, .int x1, .int x2, .int x3] [] (hp I J (pm_RT pa pb ga)) Q := by
  refine x_l 5 rfl rfl rfl ?_
  refine x_l 6 rfl rfl rfl ?_
  refine z_gf 9 (.int (I 120 3)) rfl ⟨rfl, rfl, rfl⟩ rfl rfl ?_
  refine x_b 12 rfl rfl rfl (fun c => ?_) (fun c => ?_)
  · have h := h.1 c
    exact h
  · have h := h.2 c
    refine x_l 13 rfl rfl rfl ?_
    refine z_gf 16 (.ref 122) rfl ⟨rfl, rfl, rfl⟩ rfl rfl ?_
    refine x_l 17 rfl rfl rfl ?_
    have h1 := h.1
    have h := h.2
    refine z_il 18 1600 rfl ⟨rfl, rfl, rfl⟩ rfl h1 rfl ?_
    exact z_cs (As := [.int (I 122 ((x3 : Int32).toNatClampNeg))]) (rest := []) rfl at_Mo_isSmall rfl rfl (Nat.le_of_ble_eq_true rfl) (Nat.le_of_ble_eq_true rfl) rfl h

theorem bk_Mo_wordWidth_21 {k : Nat} {pa pb : Nat} {ga : Nat → Nat} {I : pm_II} {J : pm_JJ} {Q : Option Value → pm_H → Prop} {x1 : Int32} {x2 : Int32} {x3 : Int32} {s0 : Int32} (h : ((s0 = 0 → Px (k + 1) 176 m_Mo_wordWidth 47 [.ref 120, .int x1, .int x2, .int x3] [] (hp I J (pm_RT pa pb ga)) Q) ∧ (¬ (s0 = 0) → vp_in x3 1600 ∧ vp_in ((I 122 ((x3 : Int32).toNatClampNeg)) - (96 : Int32)) 27 ∧ Px (k + 1) 176 m_Mo_wordWidth 4 [.ref 120, .int x1, .int (x2 + (I 147 ((((I 122 ((x3 : Int32).toNatClampNeg)) - (96 : Int32)) : Int32).toNatClampNeg))), .int (x3 + Int32.ofInt 1)] [] (hp I J (pm_RT pa pb ga)) Q))) : Px (k + 1) 176 m_Mo_wordWidth 21 [.ref 120, .int x1, .int x2, .int x3] [.int s0] (hp I J (pm_RT pa pb ga)) Q := by
  refine x_b 24 rfl rfl rfl (fun c => ?_) (fun c => ?_)
  · have h := h.1 c
    exact h
  · have h := h.2 c
    refine x_l 25 rfl rfl rfl ?_
    refine x_l 26 rfl rfl rfl ?_
    refine z_gf 29 (.ref 147) rfl ⟨rfl, rfl, rfl⟩ rfl rfl ?_
    refine x_l 30 rfl rfl rfl ?_
    refine z_gf 33 (.ref 122) rfl ⟨rfl, rfl, rfl⟩ rfl rfl ?_
    refine x_l 34 rfl rfl rfl ?_
    have h1 := h.1
    have h := h.2
    refine z_il 35 1600 rfl ⟨rfl, rfl, rfl⟩ rfl h1 rfl ?_
    refine z_k 37 96 rfl (by decide) rfl ?_
    refine x_s 38 rfl rfl rfl ?_
    have h1 := h.1
    have h := h.2
    refine z_il 39 27 rfl ⟨rfl, rfl, rfl⟩ rfl h1 rfl ?_
    refine x_s 40 rfl rfl rfl ?_
    refine x_t 41 rfl rfl rfl ?_
    refine x_t 44 rfl rfl rfl ?_
    refine x_g rfl ?_
    exact h

theorem bk_Mo_wordWidth_47 {k : Nat} {pa pb : Nat} {ga : Nat → Nat} {I : pm_II} {J : pm_JJ} {Q : Option Value → pm_H → Prop} {x1 : Int32} {x2 : Int32} {x3 : Int32} (h : Q (some (.int x2)) (hp I J (pm_RT pa pb ga))) : Px (k + 1) 176 m_Mo_wordWidth 47 [.ref 120, .int x1, .int x2, .int x3] [] (hp I J (pm_RT pa pb ga)) Q := by
  refine x_l 48 rfl rfl rfl ?_
  exact x_ri rfl (Or.inl rfl) h

theorem bk_Mo_lineFrom_0 {k : Nat} {pa pb : Nat} {ga : Nat → Nat} {I : pm_II} {J : pm_JJ} {Q : Option Value → pm_H → Prop} {x1 : Int32} {x2 : Int32} (h : Px k 176 m_Mo_wordWidth 0 [.ref 120, .int x1, .null, .null] [] (hp I J (pm_RT pa pb ga)) (fun r h' => h'.1 = 176 ∧ Px (k + 1) 176 m_Mo_lineFrom 10 [.ref 120, .int x1, .int x2, .int (I 120 56), .null, .null, .null, .null, .null, .null] (r.toList ++ []) h' Q)) : Px (k + 1) 176 m_Mo_lineFrom 0 [.ref 120, .int x1, .int x2, .null, .null, .null, .null, .null, .null, .null] [] (hp I J (pm_RT pa pb ga)) Q := by
  refine x_l 1 rfl rfl rfl ?_
  refine z_gf 4 (.int (I 120 56)) rfl ⟨rfl, rfl, rfl⟩ rfl rfl ?_
  refine x_t 5 rfl rfl rfl ?_
  refine x_l 6 rfl rfl rfl ?_
  refine x_l 7 rfl rfl rfl ?_
  exact z_cv (As := [.int x1]) (rest := []) (b := 120) rfl at_Mo_wordWidth rfl rfl (Nat.le_of_ble_eq_true rfl) (Nat.le_of_ble_eq_true rfl) ⟨rfl, rfl, rfl⟩ (by decide) rfl h

theorem bk_Mo_lineFrom_10 {k : Nat} {pa pb : Nat} {ga : Nat → Nat} {I : pm_II} {J : pm_JJ} {Q : Option Value → pm_H → Prop} {x1 : Int32} {x2 : Int32} {x3 : Int32} {s0 : Int32} (h : Px (k + 1) 176 m_Mo_lineFrom 18 [.ref 120, .int x1, .int x2, .int x3, .int s0, .int 1, .int x1, .null, .null, .null] [] (hp I J (pm_RT pa pb ga)) Q) : Px (k + 1) 176 m_Mo_lineFrom 10 [.ref 120, .int x1, .int x2, .int x3, .null, .null, .null, .null, .null, .null] [.int s0] (hp I J (pm_RT pa pb ga)) Q := by
  refine x_t 12 rfl rfl rfl ?_
  refine z_k 13 1 rfl (by decide) rfl ?_
  refine x_t 15 rfl rfl rfl ?_
  refine x_l 16 rfl rfl rfl ?_
  refine x_t 18 rfl rfl rfl ?_
  exact h

theorem bk_Mo_lineFrom_18 {k : Nat} {pa pb : Nat} {ga : Nat → Nat} {I : pm_II} {J : pm_JJ} {Q : Option Value → pm_H → Prop} {x1 : Int32} {x2 : Int32} {x3 : Int32} {x4 : Int32} {x5 : Int32} {x6 : Int32} (h : vp_in x6 1600 ∧ (((I 122 ((x6 : Int32).toNatClampNeg)) = 10 → Px (k + 1) 176 m_Mo_lineFrom 48 [.ref 120, .int x1, .int x2, .int x3, .int x4, .int x5, .int x6, .null, .null, .null] [] (hp I J (pm_RT pa pb ga)) Q) ∧ (¬ ((I 122 ((x6 : Int32).toNatClampNeg)) = 10) → vp_in x6 1600 ∧ (((I 122 ((x6 : Int32).toNatClampNeg)) = 32 → Px (k + 1) 176 m_Mo_lineFrom 48 [.ref 120, .int x1, .int x2, .int x3, .int x4, .int x5, .int x6, .null, .null, .null] [] (hp I J (pm_RT pa pb ga)) Q) ∧ (¬ ((I 122 ((x6 : Int32).toNatClampNeg)) = 32) → Px (k + 1) 176 m_Mo_lineFrom 18 [.ref 120, .int x1, .int x2, .int x3, .int x4, .int x5, .int (x6 + Int32.ofInt 1), .null, .null, .null] [] (hp I J (pm_RT pa pb ga)) Q))))) : Px (k + 1) 176 m_Mo_lineFrom 18 [.ref 120, .int x1, .int x2, .int x3, .int x4, .int x5, .int x6, .null, .null, .null] [] (hp I J (pm_RT pa pb ga)) Q := by
  refine x_l 19 rfl rfl rfl ?_
  refine z_gf 22 (.ref 122) rfl ⟨rfl, rfl, rfl⟩ rfl rfl ?_
  refine x_l 24 rfl rfl rfl ?_
  have h1 := h.1
  have h := h.2
  refine z_il 25 1600 rfl ⟨rfl, rfl, rfl⟩ rfl h1 rfl ?_
  refine z_k 27 10 rfl (by decide) rfl ?_
  refine x_b 30 rfl rfl rfl (fun c => ?_) (fun c => ?_)
  · have h := h.1 c
    exact h
  · have h := h.2 c
    refine x_l 31 rfl rfl rfl ?_
    refine z_gf 34 (.ref 122) rfl ⟨rfl, rfl, rfl⟩ rfl rfl ?_
    refine x_l 36 rfl rfl rfl ?_
    have h1 := h.1
    have h := h.2
    refine z_il 37 1600 rfl ⟨rfl, rfl, rfl⟩ rfl h1 rfl ?_
    refine z_k 39 32 rfl (by decide) rfl ?_
    refine x_b 42 rfl rfl rfl (fun c => ?_) (fun c => ?_)
    · have h := h.1 c
      exact h
    · have h := h.2 c
      refine x_t 45 rfl rfl rfl ?_
      refine x_g rfl ?_
      exact h

theorem bk_Mo_lineFrom_48 {k : Nat} {pa pb : Nat} {ga : Nat → Nat} {I : pm_II} {J : pm_JJ} {Q : Option Value → pm_H → Prop} {x1 : Int32} {x2 : Int32} {x3 : Int32} {x4 : Int32} {x5 : Int32} {x6 : Int32} (h : vp_in x6 1600 ∧ ((¬ (I 122 ((x6 : Int32).toNatClampNeg)) = 32 → Px (k + 1) 176 m_Mo_lineFrom 128 [.ref 120, .int x1, .int x2, .int x3, .int x4, .int x5, .int x6, .null, .null, .null] [] (hp I J (pm_RT pa pb ga)) Q) ∧ (¬ (¬ (I 122 ((x6 : Int32).toNatClampNeg)) = 32) → Px k 176 m_Mo_wordWidth 0 [.ref 120, .int (x6 + (1 : Int32)), .null, .null] [] (hp I J (pm_RT pa pb ga)) (fun r h' => h'.1 = 176 ∧ Px (k + 1) 176 m_Mo_lineFrom 72 [.ref 120, .int x1, .int x2, .int x3, .int x4, .int x5, .int x6, .null, .null, .null] (r.toList ++ [.int (x4 + (3 : Int32))]) h' Q)))) : Px (k + 1) 176 m_Mo_lineFrom 48 [.ref 120, .int x1, .int x2, .int x3, .int x4, .int x5, .int x6, .null, .null, .null] [] (hp I J (pm_RT pa pb ga)) Q := by
  refine x_l 49 rfl rfl rfl ?_
  refine z_gf 52 (.ref 122) rfl ⟨rfl, rfl, rfl⟩ rfl rfl ?_
  refine x_l 54 rfl rfl rfl ?_
  have h1 := h.1
  have h := h.2
  refine z_il 55 1600 rfl ⟨rfl, rfl, rfl⟩ rfl h1 rfl ?_
  refine z_k 57 32 rfl (by decide) rfl ?_
  refine x_b 60 rfl rfl rfl (fun c => ?_) (fun c => ?_)
  · have h := h.1 c
    exact h
  · have h := h.2 c
    refine x_l 62 rfl rfl rfl ?_
    refine z_k 63 3 rfl (by decide) rfl ?_
    refine x_s 64 rfl rfl rfl ?_
    refine x_l 65 rfl rfl rfl ?_
    refine x_l 67 rfl rfl rfl ?_
    refine z_k 68 1 rfl (by decide) rfl ?_
    refine x_s 69 rfl rfl rfl ?_
    exact z_cv (As := [.int (x6 + (1 : Int32))]) (rest := [.int (x4 + (3 : Int32))]) (b := 120) rfl at_Mo_wordWidth rfl rfl (Nat.le_of_ble_eq_true rfl) (Nat.le_of_ble_eq_true rfl) ⟨rfl, rfl, rfl⟩ (by decide) rfl h

theorem bk_Mo_lineFrom_72 {k : Nat} {pa pb : Nat} {ga : Nat → Nat} {I : pm_II} {J : pm_JJ} {Q : Option Value → pm_H → Prop} {x1 : Int32} {x2 : Int32} {x3 : Int32} {x4 : Int32} {x5 : Int32} {x6 : Int32} {s0 : Int32} {s1 : Int32} (h : ((x2 < (s0 + s1) → Px (k + 1) 176 m_Mo_lineFrom 128 [.ref 120, .int x1, .int x2, .int x3, .int x4, .int x5, .int x6, .null, .null, .null] [] (hp I J (pm_RT pa pb ga)) Q) ∧ (¬ (x2 < (s0 + s1)) → Px k 176 m_Mo_wordWidth 0 [.ref 120, .int (x6 + (1 : Int32)), .null, .null] [] (hp I J (pm_RT pa pb ga)) (fun r h' => h'.1 = 176 ∧ Px (k + 1) 176 m_Mo_lineFrom 88 [.ref 120, .int x1, .int x2, .int x3, .int x4, .int x5, .int x6, .null, .null, .null] (r.toList ++ [.int 3, .int x4]) h' Q)))) : Px (k + 1) 176 m_Mo_lineFrom 72 [.ref 120, .int x1, .int x2, .int x3, .int x4, .int x5, .int x6, .null, .null, .null] [.int s1, .int s0] (hp I J (pm_RT pa pb ga)) Q := by
  refine x_s 73 rfl rfl rfl ?_
  refine x_l 74 rfl rfl rfl ?_
  refine x_b 77 rfl rfl rfl (fun c => ?_) (fun c => ?_)
  · have h := h.1 c
    exact h
  · have h := h.2 c
    refine x_l 79 rfl rfl rfl ?_
    refine z_k 80 3 rfl (by decide) rfl ?_
    refine x_l 81 rfl rfl rfl ?_
    refine x_l 83 rfl rfl rfl ?_
    refine z_k 84 1 rfl (by decide) rfl ?_
    refine x_s 85 rfl rfl rfl ?_
    exact z_cv (As := [.int (x6 + (1 : Int32))]) (rest := [.int 3, .int x4]) (b := 120) rfl at_Mo_wordWidth rfl rfl (Nat.le_of_ble_eq_true rfl) (Nat.le_of_ble_eq_true rfl) ⟨rfl, rfl, rfl⟩ (by decide) rfl h

theorem bk_Mo_lineFrom_88 {k : Nat} {pa pb : Nat} {ga : Nat → Nat} {I : pm_II} {J : pm_JJ} {Q : Option Value → pm_H → Prop} {x1 : Int32} {x2 : Int32} {x3 : Int32} {x4 : Int32} {x5 : Int32} {x6 : Int32} {s0 : Int32} {s1 : Int32} {s2 : Int32} (h : Px (k + 1) 176 m_Mo_lineFrom 98 [.ref 120, .int x1, .int x2, .int x3, .int (s0 + (s1 + s2)), .int (x5 + Int32.ofInt 1), .int (x6 + Int32.ofInt 1), .null, .null, .null] [] (hp I J (pm_RT pa pb ga)) Q) : Px (k + 1) 176 m_Mo_lineFrom 88 [.ref 120, .int x1, .int x2, .int x3, .int x4, .int x5, .int x6, .null, .null, .null] [.int s2, .int s1, .int s0] (hp I J (pm_RT pa pb ga)) Q := by
  refine x_s 89 rfl rfl rfl ?_
  refine x_s 90 rfl rfl rfl ?_
  refine x_t 92 rfl rfl rfl ?_
  refine x_t 95 rfl rfl rfl ?_
  refine x_t 98 rfl rfl rfl ?_
  exact h

theorem bk_Mo_lineFrom_98 {k : Nat} {pa pb : Nat} {ga : Nat → Nat} {I : pm_II} {J : pm_JJ} {Q : Option Value → pm_H → Prop} {x1 : Int32} {x2 : Int32} {x3 : Int32} {x4 : Int32} {x5 : Int32} {x6 : Int32} (h : vp_in x6 1600 ∧ (((I 122 ((x6 : Int32).toNatClampNeg)) = 10 → Px (k + 1) 176 m_Mo_lineFrom 48 [.ref 120, .int x1, .int x2, .int x3, .int x4, .int x5, .int x6, .null, .null, .null] [] (hp I J (pm_RT pa pb ga)) Q) ∧ (¬ ((I 122 ((x6 : Int32).toNatClampNeg)) = 10) → vp_in x6 1600 ∧ (((I 122 ((x6 : Int32).toNatClampNeg)) = 32 → Px (k + 1) 176 m_Mo_lineFrom 48 [.ref 120, .int x1, .int x2, .int x3, .int x4, .int x5, .int x6, .null, .null, .null] [] (hp I J (pm_RT pa pb ga)) Q) ∧ (¬ ((I 122 ((x6 : Int32).toNatClampNeg)) = 32) → Px (k + 1) 176 m_Mo_lineFrom 98 [.ref 120, .int x1, .int x2, .int x3, .int x4, .int x5, .int (x6 + Int32.ofInt 1), .null, .null, .null] [] (hp I J (pm_RT pa pb ga)) Q))))) : Px (k + 1) 176 m_Mo_lineFrom 98 [.ref 120, .int x1, .int x2, .int x3, .int x4, .int x5, .int x6, .null, .null, .null] [] (hp I J (pm_RT pa pb ga)) Q := by
  refine x_l 99 rfl rfl rfl ?_
  refine z_gf 102 (.ref 122) rfl ⟨rfl, rfl, rfl⟩ rfl rfl ?_
  refine x_l 104 rfl rfl rfl ?_
  have h1 := h.1
  have h := h.2
  refine z_il 105 1600 rfl ⟨rfl, rfl, rfl⟩ rfl h1 rfl ?_
  refine z_k 107 10 rfl (by decide) rfl ?_
  refine x_b 110 rfl rfl rfl (fun c => ?_) (fun c => ?_)
  · have h := h.1 c
    exact h
  · have h := h.2 c
    refine x_l 111 rfl rfl rfl ?_
    refine z_gf 114 (.ref 122) rfl ⟨rfl, rfl, rfl⟩ rfl rfl ?_
    refine x_l 116 rfl rfl rfl ?_
    have h1 := h.1
    have h := h.2
    refine z_il 117 1600 rfl ⟨rfl, rfl, rfl⟩ rfl h1 rfl ?_
    refine z_k 119 32 rfl (by decide) rfl ?_
    refine x_b 122 rfl rfl rfl (fun c => ?_) (fun c => ?_)
    · have h := h.1 c
      exact h
    · have h := h.2 c
      refine x_t 125 rfl rfl rfl ?_
      refine x_g rfl ?_
      exact h

theorem bk_Mo_lineFrom_128 {k : Nat} {pa pb : Nat} {ga : Nat → Nat} {I : pm_II} {J : pm_JJ} {Q : Option Value → pm_H → Prop} {x1 : Int32} {x2 : Int32} {x3 : Int32} {x4 : Int32} {x5 : Int32} {x6 : Int32} (h : vp_in x6 1600 ∧ ((¬ (I 122 ((x6 : Int32).toNatClampNeg)) = 10 → Px (k + 1) 176 m_Mo_lineFrom 145 [.ref 120, .int x1, .int x2, .int x3, .int x4, .int x5, .int x6, .null, .null, .null] [.int 0] (hp I J (pm_RT pa pb ga)) Q) ∧ (¬ (¬ (I 122 ((x6 : Int32).toNatClampNeg)) = 10) → Px (k + 1) 176 m_Mo_lineFrom 145 [.ref 120, .int x1, .int x2, .int x3, .int x4, .int x5, .int x6, .null, .null, .null] [.int 1] (hp I J (pm_RT pa pb ga)) Q))) : Px (k + 1) 176 m_Mo_lineFrom 128 [.ref 120, .int x1, .int x2, .int x3, .int x4, .int x5, .int x6, .null, .null, .null] [] (hp I J (pm_RT pa pb ga)) Q := by
  refine x_l 129 rfl rfl rfl ?_
  refine z_gf 132 (.ref 122) rfl ⟨rfl, rfl, rfl⟩ rfl rfl ?_
  refine x_l 134 rfl rfl rfl ?_
  have h1 := h.1
  have h := h.2
  refine z_il 135 1600 rfl ⟨rfl, rfl, rfl⟩ rfl h1 rfl ?_
  refine z_k 137 10 rfl (by decide) rfl ?_
  refine x_b 140 rfl rfl rfl (fun c => ?_) (fun c => ?_)
  · have h := h.1 c
    refine z_k 145 0 rfl (by decide) rfl ?_
    exact h
  · have h := h.2 c
    refine z_k 141 1 rfl (by decide) rfl ?_
    refine x_g rfl ?_
    exact h

theorem bk_Mo_lineFrom_145 {k : Nat} {pa pb : Nat} {ga : Nat → Nat} {I : pm_II} {J : pm_JJ} {Q : Option Value → pm_H → Prop} {x1 : Int32} {x2 : Int32} {x3 : Int32} {x4 : Int32} {x5 : Int32} {x6 : Int32} {s0 : Int32} (h : ((¬ s0 = 0 → Px (k + 1) 176 m_Mo_lineFrom 166 [.ref 120, .int x1, .int x2, .int x3, .int x4, .int x5, .int x6, .int s0, .null, .null] [.int 0] (hp I J (pm_RT pa pb ga)) Q) ∧ (¬ (¬ s0 = 0) → ((¬ x5 = 1 → Px (k + 1) 176 m_Mo_lineFrom 166 [.ref 120, .int x1, .int x2, .int x3, .int x4, .int x5, .int x6, .int s0, .null, .null] [.int (x2 - x4)] (hp I J (pm_RT pa pb ga)) Q) ∧ (¬ (¬ x5 = 1) → Px (k + 1) 176 m_Mo_lineFrom 166 [.ref 120, .int x1, .int x2, .int x3, .int x4, .int x5, .int x6, .int s0, .null, .null] [.int 0] (hp I J (pm_RT pa pb ga)) Q))))) : Px (k + 1) 176 m_Mo_lineFrom 145 [.ref 120, .int x1, .int x2, .int x3, .int x4, .int x5, .int x6, .null, .null, .null] [.int s0] (hp I J (pm_RT pa pb ga)) Q := by
  refine x_t 147 rfl rfl rfl ?_
  refine x_l 149 rfl rfl rfl ?_
  refine x_b 152 rfl rfl rfl (fun c => ?_) (fun c => ?_)
  · have h := h.1 c
    refine z_k 159 0 rfl (by decide) rfl ?_
    refine x_g rfl ?_
    exact h
  · have h := h.2 c
    refine x_l 154 rfl rfl rfl ?_
    refine z_k 155 1 rfl (by decide) rfl ?_
    refine x_b 158 rfl rfl rfl (fun c => ?_) (fun c => ?_)
    · have h := h.1 c
      refine x_l 163 rfl rfl rfl ?_
      refine x_l 165 rfl rfl rfl ?_
      refine x_s 166 rfl rfl rfl ?_
      exact h
    · have h := h.2 c
      refine z_k 159 0 rfl (by decide) rfl ?_
      refine x_g rfl ?_
      exact h

theorem bk_Mo_lineFrom_166 {k : Nat} {pa pb : Nat} {ga : Nat → Nat} {I : pm_II} {J : pm_JJ} {Q : Option Value → pm_H → Prop} {x1 : Int32} {x2 : Int32} {x3 : Int32} {x4 : Int32} {x5 : Int32} {x6 : Int32} {x7 : Int32} {s0 : Int32} (h : vp_in x3 17 ∧ vp_in x3 17 ∧ Px (k + 1) 176 m_Mo_lineFrom 190 [.ref 120, .int x1, .int x2, .int x3, .int x4, .int x5, .int x6, .int x7, .int s0, .int 0] [] (hp (pm_up (pm_up I 151 ((x3 : Int32).toNatClampNeg) x5) 152 ((x3 : Int32).toNatClampNeg) (x4 + s0)) J (pm_RT pa pb ga)) Q) : Px (k + 1) 176 m_Mo_lineFrom 166 [.ref 120, .int x1, .int x2, .int x3, .int x4, .int x5, .int x6, .int x7, .null, .null] [.int s0] (hp I J (pm_RT pa pb ga)) Q := by
  refine x_t 168 rfl rfl rfl ?_
  refine x_l 169 rfl rfl rfl ?_
  refine z_gf 172 (.ref 151) rfl ⟨rfl, rfl, rfl⟩ rfl rfl ?_
  refine x_l 173 rfl rfl rfl ?_
  refine x_l 175 rfl rfl rfl ?_
  have h1 := h.1
  have h := h.2
  refine z_is 176 17 rfl ⟨rfl, rfl, rfl⟩ rfl h1 rfl ?_
  refine x_l 177 rfl rfl rfl ?_
  refine z_gf 180 (.ref 152) rfl ⟨rfl, rfl, rfl⟩ rfl rfl ?_
  refine x_l 181 rfl rfl rfl ?_
  refine x_l 183 rfl rfl rfl ?_
  refine x_l 185 rfl rfl rfl ?_
  refine x_s 186 rfl rfl rfl ?_
  have h1 := h.1
  have h := h.2
  refine z_is 187 17 rfl ⟨rfl, rfl, rfl⟩ rfl h1 rfl ?_
  refine z_k 188 0 rfl (by decide) rfl ?_
  refine x_t 190 rfl rfl rfl ?_
  exact h

theorem bk_Mo_lineFrom_190 {k : Nat} {pa pb : Nat} {ga : Nat → Nat} {I : pm_II} {J : pm_JJ} {Q : Option Value → pm_H → Prop} {x1 : Int32} {x2 : Int32} {x3 : Int32} {x4 : Int32} {x5 : Int32} {x6 : Int32} {x7 : Int32} {x8 : Int32} {x9 : Int32} (h : (((x5 - (1 : Int32)) ≤ x9 → vp_in x3 17 ∧ Px (k + 1) 176 m_Mo_lineFrom 254 [.ref 120, .int x1, .int x2, .int x3, .int x4, .int x5, .int x6, .int x7, .int x8, .int x1] [] (hp (pm_up I 150 ((x3 : Int32).toNatClampNeg) 0) J (pm_RT pa pb ga)) Q) ∧ (¬ ((x5 - (1 : Int32)) ≤ x9) → ¬ (x5 - (1 : Int32)) = 0 ∧ ¬ (x5 - (1 : Int32)) = 0 ∧ (((x8 - x8 / (x5 - (1 : Int32)) * (x5 - (1 : Int32))) ≤ x9 → vp_in (((12 : Int32) * x3) + x9) 204 ∧ Px (k + 1) 176 m_Mo_lineFrom 190 [.ref 120, .int x1, .int x2, .int x3, .int x4, .int x5, .int x6, .int x7, .int x8, .int (x9 + Int32.ofInt 1)] [] (hp (pm_up I 153 (((((12 : Int32) * x3) + x9) : Int32).toNatClampNeg) (((3 : Int32) + (x8 / (x5 - (1 : Int32)))) + (0 : Int32))) J (pm_RT pa pb ga)) Q) ∧ (¬ ((x8 - x8 / (x5 - (1 : Int32)) * (x5 - (1 : Int32))) ≤ x9) → vp_in (((12 : Int32) * x3) + x9) 204 ∧ Px (k + 1) 176 m_Mo_lineFrom 190 [.ref 120, .int x1, .int x2, .int x3, .int x4, .int x5, .int x6, .int x7, .int x8, .int (x9 + Int32.ofInt 1)] [] (hp (pm_up I 153 (((((12 : Int32) * x3) + x9) : Int32).toNatClampNeg) (((3 : Int32) + (x8 / (x5 - (1 : Int32)))) + (1 : Int32))) J (pm_RT pa pb ga)) Q))))) : Px (k + 1) 176 m_Mo_lineFrom 190 [.ref 120, .int x1, .int x2, .int x3, .int x4, .int x5, .int x6, .int x7, .int x8, .int x9] [] (hp I J (pm_RT pa pb ga)) Q := by
  refine x_l 192 rfl rfl rfl ?_
  refine x_l 194 rfl rfl rfl ?_
  refine z_k 195 1 rfl (by decide) rfl ?_
  refine x_s 196 rfl rfl rfl ?_
  refine x_b 199 rfl rfl rfl (fun c => ?_) (fun c => ?_)
  · have h := h.1 c
    refine x_l 245 rfl rfl rfl ?_
    refine z_gf 248 (.ref 150) rfl ⟨rfl, rfl, rfl⟩ rfl rfl ?_
    refine x_l 249 rfl rfl rfl ?_
    refine z_k 250 0 rfl (by decide) rfl ?_
    have h1 := h.1
    have h := h.2
    refine z_is 251 17 rfl ⟨rfl, rfl, rfl⟩ rfl h1 rfl ?_
    refine x_l 252 rfl rfl rfl ?_
    refine x_t 254 rfl rfl rfl ?_
    exact h
  · have h := h.2 c
    refine x_l 200 rfl rfl rfl ?_
    refine z_gf 203 (.ref 153) rfl ⟨rfl, rfl, rfl⟩ rfl rfl ?_
    refine z_k 205 12 rfl (by decide) rfl ?_
    refine x_l 206 rfl rfl rfl ?_
    refine x_s 207 rfl rfl rfl ?_
    refine x_l 209 rfl rfl rfl ?_
    refine x_s 210 rfl rfl rfl ?_
    refine z_k 211 3 rfl (by decide) rfl ?_
    refine x_l 213 rfl rfl rfl ?_
    refine x_l 215 rfl rfl rfl ?_
    refine z_k 216 1 rfl (by decide) rfl ?_
    refine x_s 217 rfl rfl rfl ?_
    have h0 := h.1
    have h := h.2
    refine x_dv 218 rfl h0 rfl ?_
    refine x_s 219 rfl rfl rfl ?_
    refine x_l 221 rfl rfl rfl ?_
    refine x_l 223 rfl rfl rfl ?_
    refine x_l 225 rfl rfl rfl ?_
    refine z_k 226 1 rfl (by decide) rfl ?_
    refine x_s 227 rfl rfl rfl ?_
    have h0 := h.1
    have h := h.2
    refine x_rm 228 rfl h0 rfl ?_
    refine x_b 231 rfl rfl rfl (fun c => ?_) (fun c => ?_)
    · have h := h.1 c
      refine z_k 236 0 rfl (by decide) rfl ?_
      refine x_s 237 rfl rfl rfl ?_
      have h1 := h.1
      have h := h.2
      refine z_is 238 204 rfl ⟨rfl, rfl, rfl⟩ rfl h1 rfl ?_
      refine x_t 241 rfl rfl rfl ?_
      refine x_g rfl ?_
      exact h
    · have h := h.2 c
      refine z_k 232 1 rfl (by decide) rfl ?_
      refine x_g rfl ?_
      refine x_s 237 rfl rfl rfl ?_
      have h1 := h.1
      have h := h.2
      refine z_is 238 204 rfl ⟨rfl, rfl, rfl⟩ rfl h1 rfl ?_
      refine x_t 241 rfl rfl rfl ?_
      refine x_g rfl ?_
      exact h

theorem bk_Mo_lineFrom_254 {k : Nat} {pa pb : Nat} {ga : Nat → Nat} {I : pm_II} {J : pm_JJ} {Q : Option Value → pm_H → Prop} {x1 : Int32} {x2 : Int32} {x3 : Int32} {x4 : Int32} {x5 : Int32} {x6 : Int32} {x7 : Int32} {x8 : Int32} {x9 : Int32} (h : ((x6 ≤ x9 → Q (some (.int (x6 + (1 : Int32)))) (hp I J (pm_RT pa pb ga))) ∧ (¬ (x6 ≤ x9) → vp_in x3 17 ∧ vp_in x9 1600 ∧ ((¬ (I 122 ((x9 : Int32).toNatClampNeg)) = 32 → vp_in x9 1600 ∧ Px (k + 1) 176 m_Mo_lineFrom 303 [.ref 120, .int x1, .int x2, .int x3, .int x4, .int x5, .int x6, .int x7, .int x8, .int x9] [.int ((I 122 ((x9 : Int32).toNatClampNeg)) - (96 : Int32)), .int (((160 : Int32) * x3) + (I 150 ((x3 : Int32).toNatClampNeg))), .ref 149] (hp I J (pm_RT pa pb ga)) Q) ∧ (¬ (¬ (I 122 ((x9 : Int32).toNatClampNeg)) = 32) → Px (k + 1) 176 m_Mo_lineFrom 303 [.ref 120, .int x1, .int x2, .int x3, .int x4, .int x5, .int x6, .int x7, .int x8, .int x9] [.int 0, .int (((160 : Int32) * x3) + (I 150 ((x3 : Int32).toNatClampNeg))), .ref 149] (hp I J (pm_RT pa pb ga)) Q))))) : Px (k + 1) 176 m_Mo_lineFrom 254 [.ref 120, .int x1, .int x2, .int x3, .int x4, .int x5, .int x6, .int x7, .int x8, .int x9] [] (hp I J (pm_RT pa pb ga)) Q := by
  refine x_l 256 rfl rfl rfl ?_
  refine x_l 258 rfl rfl rfl ?_
  refine x_b 261 rfl rfl rfl (fun c => ?_) (fun c => ?_)
  · have h := h.1 c
    refine x_l 322 rfl rfl rfl ?_
    refine z_k 323 1 rfl (by decide) rfl ?_
    refine x_s 324 rfl rfl rfl ?_
    exact x_ri rfl (Or.inl rfl) h
  · have h := h.2 c
    refine x_l 262 rfl rfl rfl ?_
    refine z_gf 265 (.ref 149) rfl ⟨rfl, rfl, rfl⟩ rfl rfl ?_
    refine z_k 268 160 rfl (by decide) rfl ?_
    refine x_l 269 rfl rfl rfl ?_
    refine x_s 270 rfl rfl rfl ?_
    refine x_l 271 rfl rfl rfl ?_
    refine z_gf 274 (.ref 150) rfl ⟨rfl, rfl, rfl⟩ rfl rfl ?_
    refine x_l 275 rfl rfl rfl ?_
    have h1 := h.1
    have h := h.2
    refine z_il 276 17 rfl ⟨rfl, rfl, rfl⟩ rfl h1 rfl ?_
    refine x_s 277 rfl rfl rfl ?_
    refine x_l 278 rfl rfl rfl ?_
    refine z_gf 281 (.ref 122) rfl ⟨rfl, rfl, rfl⟩ rfl rfl ?_
    refine x_l 283 rfl rfl rfl ?_
    have h1 := h.1
    have h := h.2
    refine z_il 284 1600 rfl ⟨rfl, rfl, rfl⟩ rfl h1 rfl ?_
    refine z_k 286 32 rfl (by decide) rfl ?_
    refine x_b 289 rfl rfl rfl (fun c => ?_) (fun c => ?_)
    · have h := h.1 c
      refine x_l 294 rfl rfl rfl ?_
      refine z_gf 297 (.ref 122) rfl ⟨rfl, rfl, rfl⟩ rfl rfl ?_
      refine x_l 299 rfl rfl rfl ?_
      have h1 := h.1
      have h := h.2
      refine z_il 300 1600 rfl ⟨rfl, rfl, rfl⟩ rfl h1 rfl ?_
      refine z_k 302 96 rfl (by decide) rfl ?_
      refine x_s 303 rfl rfl rfl ?_
      exact h
    · have h := h.2 c
      refine z_k 290 0 rfl (by decide) rfl ?_
      refine x_g rfl ?_
      exact h

theorem bk_Mo_lineFrom_303 {k : Nat} {pa pb : Nat} {ga : Nat → Nat} {I : pm_II} {J : pm_JJ} {Q : Option Value → pm_H → Prop} {x1 : Int32} {x2 : Int32} {x3 : Int32} {x4 : Int32} {x5 : Int32} {x6 : Int32} {x7 : Int32} {x8 : Int32} {x9 : Int32} {s1 : Int32} {s2 : Int32} (h : vp_in s1 2624 ∧ vp_in x3 17 ∧ vp_in x3 17 ∧ Px (k + 1) 176 m_Mo_lineFrom 254 [.ref 120, .int x1, .int x2, .int x3, .int x4, .int x5, .int x6, .int x7, .int x8, .int (x9 + Int32.ofInt 1)] [] (hp (pm_up (pm_up I 149 ((s1 : Int32).toNatClampNeg) s2) 150 ((x3 : Int32).toNatClampNeg) ((I 150 ((x3 : Int32).toNatClampNeg)) + (1 : Int32))) J (pm_RT pa pb ga)) Q) : Px (k + 1) 176 m_Mo_lineFrom 303 [.ref 120, .int x1, .int x2, .int x3, .int x4, .int x5, .int x6, .int x7, .int x8, .int x9] [.int s2, .int s1, .ref 149] (hp I J (pm_RT pa pb ga)) Q := by
  have h1 := h.1
  have h := h.2
  refine z_is 304 2624 rfl ⟨rfl, rfl, rfl⟩ rfl h1 rfl ?_
  refine x_l 305 rfl rfl rfl ?_
  refine z_gf 308 (.ref 150) rfl ⟨rfl, rfl, rfl⟩ rfl rfl ?_
  refine x_l 309 rfl rfl rfl ?_
  refine x_s 310 rfl rfl rfl ?_
  have h1 := h.1
  have h := h.2
  refine z_il 311 17 rfl ⟨rfl, rfl, rfl⟩ rfl h1 rfl ?_
  refine z_k 312 1 rfl (by decide) rfl ?_
  refine x_s 313 rfl rfl rfl ?_
  have h1 := h.1
  have h := h.2
  refine z_is 314 17 rfl ⟨rfl, rfl, rfl⟩ rfl h1 rfl ?_
  refine x_t 317 rfl rfl rfl ?_
  refine x_g rfl ?_
  exact h

theorem bk_Mo_distribute_0 {k : Nat} {pa pb : Nat} {ga : Nat → Nat} {I : pm_II} {J : pm_JJ} {Q : Option Value → pm_H → Prop} {x1 : Int32} (h : Px k 176 m_Mo_isLine 0 [.ref 120, .int x1] [] (hp I J (pm_RT pa pb ga)) (fun r h' => h'.1 = 176 ∧ Px (k + 1) 176 m_Mo_distribute 5 [.ref 120, .int x1, .null, .null] (r.toList ++ []) h' Q)) : Px (k + 1) 176 m_Mo_distribute 0 [.ref 120, .int x1, .null, .null] [] (hp I J (pm_RT pa pb ga)) Q := by
  refine x_l 1 rfl rfl rfl ?_
  refine x_l 2 rfl rfl rfl ?_
  exact z_cv (As := [.int x1]) (rest := []) (b := 120) rfl at_Mo_isLine rfl rfl (Nat.le_of_ble_eq_true rfl) (Nat.le_of_ble_eq_true rfl) ⟨rfl, rfl, rfl⟩ (by decide) rfl h

theorem bk_Mo_distribute_5 {k : Nat} {pa pb : Nat} {ga : Nat → Nat} {I : pm_II} {J : pm_JJ} {Q : Option Value → pm_H → Prop} {x1 : Int32} {s0 : Int32} (h : ((¬ s0 = 0 → Px (k + 1) 176 m_Mo_distribute 12 [.ref 120, .int x1, .int 0, .null] [] (hp I J (pm_RT pa pb ga)) Q) ∧ (¬ (¬ s0 = 0) → Q (some (.int (-1))) (hp I J (pm_RT pa pb ga))))) : Px (k + 1) 176 m_Mo_distribute 5 [.ref 120, .int x1, .null, .null] [.int s0] (hp I J (pm_RT pa pb ga)) Q := by
  refine x_b 8 rfl rfl rfl (fun c => ?_) (fun c => ?_)
  · have h := h.1 c
    refine z_k 11 0 rfl (by decide) rfl ?_
    refine x_t 12 rfl rfl rfl ?_
    exact h
  · have h := h.2 c
    refine z_k 9 (-1) rfl (by decide) rfl ?_
    exact x_ri rfl (Or.inl rfl) h

theorem bk_Mo_distribute_12 {k : Nat} {pa pb : Nat} {ga : Nat → Nat} {I : pm_II} {J : pm_JJ} {Q : Option Value → pm_H → Prop} {x1 : Int32} {x2 : Int32} (h : vp_in x1 17 ∧ (((I 150 ((x1 : Int32).toNatClampNeg)) ≤ x2 → Px (k + 1) 176 m_Mo_distribute 66 [.ref 120, .int x1, .int x1, .null] [] (hp I J (pm_RT pa pb ga)) Q) ∧ (¬ ((I 150 ((x1 : Int32).toNatClampNeg)) ≤ x2) → vp_in (((160 : Int32) * x1) + x2) 2624 ∧ (((I 149 (((((160 : Int32) * x1) + x2) : Int32).toNatClampNeg)) ≤ 0 → Px (k + 1) 176 m_Mo_distribute 12 [.ref 120, .int x1, .int (x2 + Int32.ofInt 1), .null] [] (hp I J (pm_RT pa pb ga)) Q) ∧ (¬ ((I 149 (((((160 : Int32) * x1) + x2) : Int32).toNatClampNeg)) ≤ 0) → vp_in (((160 : Int32) * x1) + x2) 2624 ∧ vp_in (I 149 (((((160 : Int32) * x1) + x2) : Int32).toNatClampNeg)) 27 ∧ vp_in (I 149 (((((160 : Int32) * x1) + x2) : Int32).toNatClampNeg)) 27 ∧ Px (k + 1) 176 m_Mo_distribute 12 [.ref 120, .int x1, .int (x2 + Int32.ofInt 1), .null] [] (hp (pm_up I 146 (((I 149 (((((160 : Int32) * x1) + x2) : Int32).toNatClampNeg)) : Int32).toNatClampNeg) ((I 146 (((I 149 (((((160 : Int32) * x1) + x2) : Int32).toNatClampNeg)) : Int32).toNatClampNeg)) + (1 : Int32))) J (pm_RT pa pb ga)) Q))))) : Px (k + 1) 176 m_Mo_distribute 12 [.ref 120, .int x1, .int x2, .null] [] (hp I J (pm_RT pa pb ga)) Q := by
  refine x_l 13 rfl rfl rfl ?_
  refine x_l 14 rfl rfl rfl ?_
  refine z_gf 17 (.ref 150) rfl ⟨rfl, rfl, rfl⟩ rfl rfl ?_
  refine x_l 18 rfl rfl rfl ?_
  have h1 := h.1
  have h := h.2
  refine z_il 19 17 rfl ⟨rfl, rfl, rfl⟩ rfl h1 rfl ?_
  refine x_b 22 rfl rfl rfl (fun c => ?_) (fun c => ?_)
  · have h := h.1 c
    refine x_l 65 rfl rfl rfl ?_
    refine x_t 66 rfl rfl rfl ?_
    exact h
  · have h := h.2 c
    refine x_l 23 rfl rfl rfl ?_
    refine z_gf 26 (.ref 149) rfl ⟨rfl, rfl, rfl⟩ rfl rfl ?_
    refine z_k 29 160 rfl (by decide) rfl ?_
    refine x_l 30 rfl rfl rfl ?_
    refine x_s 31 rfl rfl rfl ?_
    refine x_l 32 rfl rfl rfl ?_
    refine x_s 33 rfl rfl rfl ?_
    have h1 := h.1
    have h := h.2
    refine z_il 34 2624 rfl ⟨rfl, rfl, rfl⟩ rfl h1 rfl ?_
    refine x_b 37 rfl rfl rfl (fun c => ?_) (fun c => ?_)
    · have h := h.1 c
      refine x_t 61 rfl rfl rfl ?_
      refine x_g rfl ?_
      exact h
    · have h := h.2 c
      refine x_l 38 rfl rfl rfl ?_
      refine z_gf 41 (.ref 146) rfl ⟨rfl, rfl, rfl⟩ rfl rfl ?_
      refine x_l 42 rfl rfl rfl ?_
      refine z_gf 45 (.ref 149) rfl ⟨rfl, rfl, rfl⟩ rfl rfl ?_
      refine z_k 48 160 rfl (by decide) rfl ?_
      refine x_l 49 rfl rfl rfl ?_
      refine x_s 50 rfl rfl rfl ?_
      refine x_l 51 rfl rfl rfl ?_
      refine x_s 52 rfl rfl rfl ?_
      have h1 := h.1
      have h := h.2
      refine z_il 53 2624 rfl ⟨rfl, rfl, rfl⟩ rfl h1 rfl ?_
      refine x_s 54 rfl rfl rfl ?_
      have h1 := h.1
      have h := h.2
      refine z_il 55 27 rfl ⟨rfl, rfl, rfl⟩ rfl h1 rfl ?_
      refine z_k 56 1 rfl (by decide) rfl ?_
      refine x_s 57 rfl rfl rfl ?_
      have h1 := h.1
      have h := h.2
      refine z_is 58 27 rfl ⟨rfl, rfl, rfl⟩ rfl h1 rfl ?_
      refine x_t 61 rfl rfl rfl ?_
      refine x_g rfl ?_
      exact h

theorem bk_Mo_distribute_66 {k : Nat} {pa pb : Nat} {ga : Nat → Nat} {I : pm_II} {J : pm_JJ} {Q : Option Value → pm_H → Prop} {x1 : Int32} {x2 : Int32} (h : (((I 120 56) ≤ (x2 + (1 : Int32)) → Q (some (.int ((I 120 56) - (1 : Int32)))) (hp (pm_up I 120 56 ((I 120 56) - (1 : Int32))) J (pm_RT pa pb ga))) ∧ (¬ ((I 120 56) ≤ (x2 + (1 : Int32))) → vp_in (x2 + (1 : Int32)) 17 ∧ vp_in x2 17 ∧ vp_in (x2 + (1 : Int32)) 17 ∧ vp_in x2 17 ∧ vp_in (x2 + (1 : Int32)) 17 ∧ vp_in x2 17 ∧ Px (k + 1) 176 m_Mo_distribute 120 [.ref 120, .int x1, .int x2, .int 0] [] (hp (pm_up (pm_up (pm_up I 150 ((x2 : Int32).toNatClampNeg) (I 150 (((x2 + (1 : Int32)) : Int32).toNatClampNeg))) 151 ((x2 : Int32).toNatClampNeg) (I 151 (((x2 + (1 : Int32)) : Int32).toNatClampNeg))) 152 ((x2 : Int32).toNatClampNeg) (I 152 (((x2 + (1 : Int32)) : Int32).toNatClampNeg))) J (pm_RT pa pb ga)) Q))) : Px (k + 1) 176 m_Mo_distribute 66 [.ref 120, .int x1, .int x2, .null] [] (hp I J (pm_RT pa pb ga)) Q := by
  refine x_l 67 rfl rfl rfl ?_
  refine z_k 68 1 rfl (by decide) rfl ?_
  refine x_s 69 rfl rfl rfl ?_
  refine x_l 70 rfl rfl rfl ?_
  refine z_gf 73 (.int (I 120 56)) rfl ⟨rfl, rfl, rfl⟩ rfl rfl ?_
  refine x_b 76 rfl rfl rfl (fun c => ?_) (fun c => ?_)
  · have h := h.1 c
    refine x_l 207 rfl rfl rfl ?_
    refine x_s 208 rfl rfl rfl ?_
    refine z_gf 211 (.int (I 120 56)) rfl ⟨rfl, rfl, rfl⟩ rfl rfl ?_
    refine z_k 212 1 rfl (by decide) rfl ?_
    refine x_s 213 rfl rfl rfl ?_
    refine z_pi 216 rfl (Or.inl rfl) rfl (fun z => by cases z) ⟨rfl, rfl, rfl⟩ rfl ?_
    refine x_l 217 rfl rfl rfl ?_
    refine z_gf 220 (.int ((I 120 56) - (1 : Int32))) rfl ⟨rfl, rfl, rfl⟩ rfl rfl ?_
    exact x_ri rfl (Or.inl rfl) h
  · have h := h.2 c
    refine x_l 77 rfl rfl rfl ?_
    refine z_gf 80 (.ref 150) rfl ⟨rfl, rfl, rfl⟩ rfl rfl ?_
    refine x_l 81 rfl rfl rfl ?_
    refine x_l 82 rfl rfl rfl ?_
    refine z_gf 85 (.ref 150) rfl ⟨rfl, rfl, rfl⟩ rfl rfl ?_
    refine x_l 86 rfl rfl rfl ?_
    refine z_k 87 1 rfl (by decide) rfl ?_
    refine x_s 88 rfl rfl rfl ?_
    have h1 := h.1
    have h := h.2
    refine z_il 89 17 rfl ⟨rfl, rfl, rfl⟩ rfl h1 rfl ?_
    have h1 := h.1
    have h := h.2
    refine z_is 90 17 rfl ⟨rfl, rfl, rfl⟩ rfl h1 rfl ?_
    refine x_l 91 rfl rfl rfl ?_
    refine z_gf 94 (.ref 151) rfl ⟨rfl, rfl, rfl⟩ rfl rfl ?_
    refine x_l 95 rfl rfl rfl ?_
    refine x_l 96 rfl rfl rfl ?_
    refine z_gf 99 (.ref 151) rfl ⟨rfl, rfl, rfl⟩ rfl rfl ?_
    refine x_l 100 rfl rfl rfl ?_
    refine z_k 101 1 rfl (by decide) rfl ?_
    refine x_s 102 rfl rfl rfl ?_
    have h1 := h.1
    have h := h.2
    refine z_il 103 17 rfl ⟨rfl, rfl, rfl⟩ rfl h1 rfl ?_
    have h1 := h.1
    have h := h.2
    refine z_is 104 17 rfl ⟨rfl, rfl, rfl⟩ rfl h1 rfl ?_
    refine x_l 105 rfl rfl rfl ?_
    refine z_gf 108 (.ref 152) rfl ⟨rfl, rfl, rfl⟩ rfl rfl ?_
    refine x_l 109 rfl rfl rfl ?_
    refine x_l 110 rfl rfl rfl ?_
    refine z_gf 113 (.ref 152) rfl ⟨rfl, rfl, rfl⟩ rfl rfl ?_
    refine x_l 114 rfl rfl rfl ?_
    refine z_k 115 1 rfl (by decide) rfl ?_
    refine x_s 116 rfl rfl rfl ?_
    have h1 := h.1
    have h := h.2
    refine z_il 117 17 rfl ⟨rfl, rfl, rfl⟩ rfl h1 rfl ?_
    have h1 := h.1
    have h := h.2
    refine z_is 118 17 rfl ⟨rfl, rfl, rfl⟩ rfl h1 rfl ?_
    refine z_k 119 0 rfl (by decide) rfl ?_
    refine x_t 120 rfl rfl rfl ?_
    exact h

theorem bk_Mo_distribute_120 {k : Nat} {pa pb : Nat} {ga : Nat → Nat} {I : pm_II} {J : pm_JJ} {Q : Option Value → pm_H → Prop} {x1 : Int32} {x2 : Int32} {x3 : Int32} (h : ((12 ≤ x3 → Px (k + 1) 176 m_Mo_distribute 159 [.ref 120, .int x1, .int x2, .int 0] [] (hp I J (pm_RT pa pb ga)) Q) ∧ (¬ (12 ≤ x3) → vp_in ((((12 : Int32) * x2) + (12 : Int32)) + x3) 204 ∧ vp_in (((12 : Int32) * x2) + x3) 204 ∧ Px (k + 1) 176 m_Mo_distribute 120 [.ref 120, .int x1, .int x2, .int (x3 + Int32.ofInt 1)] [] (hp (pm_up I 153 (((((12 : Int32) * x2) + x3) : Int32).toNatClampNeg) (I 153 ((((((12 : Int32) * x2) + (12 : Int32)) + x3) : Int32).toNatClampNeg))) J (pm_RT pa pb ga)) Q))) : Px (k + 1) 176 m_Mo_distribute 120 [.ref 120, .int x1, .int x2, .int x3] [] (hp I J (pm_RT pa pb ga)) Q := by
  refine x_l 121 rfl rfl rfl ?_
  refine z_k 123 12 rfl (by decide) rfl ?_
  refine x_b 126 rfl rfl rfl (fun c => ?_) (fun c => ?_)
  · have h := h.1 c
    refine z_k 158 0 rfl (by decide) rfl ?_
    refine x_t 159 rfl rfl rfl ?_
    exact h
  · have h := h.2 c
    refine x_l 127 rfl rfl rfl ?_
    refine z_gf 130 (.ref 153) rfl ⟨rfl, rfl, rfl⟩ rfl rfl ?_
    refine z_k 132 12 rfl (by decide) rfl ?_
    refine x_l 133 rfl rfl rfl ?_
    refine x_s 134 rfl rfl rfl ?_
    refine x_l 135 rfl rfl rfl ?_
    refine x_s 136 rfl rfl rfl ?_
    refine x_l 137 rfl rfl rfl ?_
    refine z_gf 140 (.ref 153) rfl ⟨rfl, rfl, rfl⟩ rfl rfl ?_
    refine z_k 142 12 rfl (by decide) rfl ?_
    refine x_l 143 rfl rfl rfl ?_
    refine x_s 144 rfl rfl rfl ?_
    refine z_k 146 12 rfl (by decide) rfl ?_
    refine x_s 147 rfl rfl rfl ?_
    refine x_l 148 rfl rfl rfl ?_
    refine x_s 149 rfl rfl rfl ?_
    have h1 := h.1
    have h := h.2
    refine z_il 150 204 rfl ⟨rfl, rfl, rfl⟩ rfl h1 rfl ?_
    have h1 := h.1
    have h := h.2
    refine z_is 151 204 rfl ⟨rfl, rfl, rfl⟩ rfl h1 rfl ?_
    refine x_t 154 rfl rfl rfl ?_
    refine x_g rfl ?_
    exact h

theorem bk_Mo_distribute_159 {k : Nat} {pa pb : Nat} {ga : Nat → Nat} {I : pm_II} {J : pm_JJ} {Q : Option Value → pm_H → Prop} {x1 : Int32} {x2 : Int32} {x3 : Int32} (h : ((160 ≤ x3 → Px (k + 1) 176 m_Mo_distribute 66 [.ref 120, .int x1, .int (x2 + Int32.ofInt 1), .int x3] [] (hp I J (pm_RT pa pb ga)) Q) ∧ (¬ (160 ≤ x3) → vp_in ((((160 : Int32) * x2) + (160 : Int32)) + x3) 2624 ∧ vp_in (((160 : Int32) * x2) + x3) 2624 ∧ Px (k + 1) 176 m_Mo_distribute 159 [.ref 120, .int x1, .int x2, .int (x3 + Int32.ofInt 1)] [] (hp (pm_up I 149 (((((160 : Int32) * x2) + x3) : Int32).toNatClampNeg) (I 149 ((((((160 : Int32) * x2) + (160 : Int32)) + x3) : Int32).toNatClampNeg))) J (pm_RT pa pb ga)) Q))) : Px (k + 1) 176 m_Mo_distribute 159 [.ref 120, .int x1, .int x2, .int x3] [] (hp I J (pm_RT pa pb ga)) Q := by
  refine x_l 160 rfl rfl rfl ?_
  refine z_k 163 160 rfl (by decide) rfl ?_
  refine x_b 166 rfl rfl rfl (fun c => ?_) (fun c => ?_)
  · have h := h.1 c
    refine x_t 203 rfl rfl rfl ?_
    refine x_g rfl ?_
    exact h
  · have h := h.2 c
    refine x_l 167 rfl rfl rfl ?_
    refine z_gf 170 (.ref 149) rfl ⟨rfl, rfl, rfl⟩ rfl rfl ?_
    refine z_k 173 160 rfl (by decide) rfl ?_
    refine x_l 174 rfl rfl rfl ?_
    refine x_s 175 rfl rfl rfl ?_
    refine x_l 176 rfl rfl rfl ?_
    refine x_s 177 rfl rfl rfl ?_
    refine x_l 178 rfl rfl rfl ?_
    refine z_gf 181 (.ref 149) rfl ⟨rfl, rfl, rfl⟩ rfl rfl ?_
    refine z_k 184 160 rfl (by decide) rfl ?_
    refine x_l 185 rfl rfl rfl ?_
    refine x_s 186 rfl rfl rfl ?_
    refine z_k 189 160 rfl (by decide) rfl ?_
    refine x_s 190 rfl rfl rfl ?_
    refine x_l 191 rfl rfl rfl ?_
    refine x_s 192 rfl rfl rfl ?_
    have h1 := h.1
    have h := h.2
    refine z_il 193 2624 rfl ⟨rfl, rfl, rfl⟩ rfl h1 rfl ?_
    have h1 := h.1
    have h := h.2
    refine z_is 194 2624 rfl ⟨rfl, rfl, rfl⟩ rfl h1 rfl ?_
    refine x_t 197 rfl rfl rfl ?_
    refine x_g rfl ?_
    exact h

theorem bk_Mo_isLine_0 {k : Nat} {pa pb : Nat} {ga : Nat → Nat} {I : pm_II} {J : pm_JJ} {Q : Option Value → pm_H → Prop} {x1 : Int32} (h : Px k 176 m_Mo_is 0 [.int x1, .int 0, .int ((I 120 56) - (1 : Int32))] [] (hp I J (pm_RT pa pb ga)) (fun r h' => h'.1 = 176 ∧ Px (k + 1) 176 m_Mo_isLine 11 [.ref 120, .int x1] (r.toList ++ []) h' Q)) : Px (k + 1) 176 m_Mo_isLine 0 [.ref 120, .int x1] [] (hp I J (pm_RT pa pb ga)) Q := by
  refine x_l 1 rfl rfl rfl ?_
  refine z_k 2 0 rfl (by decide) rfl ?_
  refine x_l 3 rfl rfl rfl ?_
  refine z_gf 6 (.int (I 120 56)) rfl ⟨rfl, rfl, rfl⟩ rfl rfl ?_
  refine z_k 7 1 rfl (by decide) rfl ?_
  refine x_s 8 rfl rfl rfl ?_
  exact z_cs (As := [.int x1, .int 0, .int ((I 120 56) - (1 : Int32))]) (rest := []) rfl at_Mo_is rfl rfl (Nat.le_of_ble_eq_true rfl) (Nat.le_of_ble_eq_true rfl) rfl h

theorem bk_Mo_isLine_11 {k : Nat} {pa pb : Nat} {ga : Nat → Nat} {I : pm_II} {J : pm_JJ} {Q : Option Value → pm_H → Prop} {x1 : Int32} {s0 : Int32} (h : (s0 = 0 ∨ s0 = 1) ∧ Q (some (.int s0)) (hp I J (pm_RT pa pb ga))) : Px (k + 1) 176 m_Mo_isLine 11 [.ref 120, .int x1] [.int s0] (hp I J (pm_RT pa pb ga)) Q := by
  exact x_ri rfl (Or.inr ⟨rfl, h.1⟩) h.2

theorem bk_Mo_line_0 {k : Nat} {pa pb : Nat} {ga : Nat → Nat} {I : pm_II} {J : pm_JJ} {Q : Option Value → pm_H → Prop} {x1 : Int32} {x2 : Int32} (h : Px k 176 m_Mo_isLine 0 [.ref 120, .int x1] [] (hp I J (pm_RT pa pb ga)) (fun r h' => h'.1 = 176 ∧ Px (k + 1) 176 m_Mo_line 5 [.ref 120, .int x1, .int x2] (r.toList ++ []) h' Q)) : Px (k + 1) 176 m_Mo_line 0 [.ref 120, .int x1, .int x2] [] (hp I J (pm_RT pa pb ga)) Q := by
  refine x_l 1 rfl rfl rfl ?_
  refine x_l 2 rfl rfl rfl ?_
  exact z_cv (As := [.int x1]) (rest := []) (b := 120) rfl at_Mo_isLine rfl rfl (Nat.le_of_ble_eq_true rfl) (Nat.le_of_ble_eq_true rfl) ⟨rfl, rfl, rfl⟩ (by decide) rfl h

theorem bk_Mo_line_5 {k : Nat} {pa pb : Nat} {ga : Nat → Nat} {I : pm_II} {J : pm_JJ} {Q : Option Value → pm_H → Prop} {x1 : Int32} {x2 : Int32} {s0 : Int32} (h : ((¬ s0 = 0 → ((x2 = nI 0 → vp_in x1 17 ∧ Q (some (.int (I 152 ((x1 : Int32).toNatClampNeg)))) (hp I J (pm_RT pa pb ga))) ∧ (x2 = nI 1 → vp_in x1 17 ∧ Q (some (.int (I 151 ((x1 : Int32).toNatClampNeg)))) (hp I J (pm_RT pa pb ga))) ∧ (x2 = nI 2 → vp_in x1 17 ∧ vp_in x1 17 ∧ Q (some (.int (((I 150 ((x1 : Int32).toNatClampNeg)) - (I 151 ((x1 : Int32).toNatClampNeg))) + (1 : Int32)))) (hp I J (pm_RT pa pb ga))) ∧ (x2 = nI 3 → vp_in x1 17 ∧ (((I 151 ((x1 : Int32).toNatClampNeg)) ≤ 1 → Q (some (.int 0)) (hp I J (pm_RT pa pb ga))) ∧ (¬ ((I 151 ((x1 : Int32).toNatClampNeg)) ≤ 1) → vp_in ((12 : Int32) * x1) 204 ∧ Q (some (.int (I 153 ((((12 : Int32) * x1) : Int32).toNatClampNeg)))) (hp I J (pm_RT pa pb ga))))) ∧ (x2 = nI 4 → vp_in x1 17 ∧ (((I 151 ((x1 : Int32).toNatClampNeg)) ≤ 1 → Q (some (.int 0)) (hp I J (pm_RT pa pb ga))) ∧ (¬ ((I 151 ((x1 : Int32).toNatClampNeg)) ≤ 1) → vp_in x1 17 ∧ vp_in ((((12 : Int32) * x1) + (I 151 ((x1 : Int32).toNatClampNeg))) - (2 : Int32)) 204 ∧ Q (some (.int (I 153 ((((((12 : Int32) * x1) + (I 151 ((x1 : Int32).toNatClampNeg))) - (2 : Int32)) : Int32).toNatClampNeg)))) (hp I J (pm_RT pa pb ga))))) ∧ ((x2 < 0 ∨ nI 4 < x2) → Q (some (.int (-1))) (hp I J (pm_RT pa pb ga))))) ∧ (¬ (¬ s0 = 0) → Q (some (.int (-1))) (hp I J (pm_RT pa pb ga))))) : Px (k + 1) 176 m_Mo_line 5 [.ref 120, .int x1, .int x2] [.int s0] (hp I J (pm_RT pa pb ga)) Q := by
  refine x_b 8 rfl rfl rfl (fun c => ?_) (fun c => ?_)
  · have h := h.1 c
    refine x_l 11 rfl rfl rfl ?_
    refine z_sw 4 (dt := 131) rfl rfl (by decide) (fun i hi e => ?_) (fun c => ?_)
    · match i, hi with
      | 0, _ =>
        refine ⟨_, 44, rfl, rfl, ?_⟩
        have h := h.1 e
        refine x_l 45 rfl rfl rfl ?_
        refine z_gf 48 (.ref 152) rfl ⟨rfl, rfl, rfl⟩ rfl rfl ?_
        refine x_l 49 rfl rfl rfl ?_
        have h1 := h.1
        have h := h.2
        refine z_il 50 17 rfl ⟨rfl, rfl, rfl⟩ rfl h1 rfl ?_
        exact x_ri rfl (Or.inl rfl) h
      | 1, _ =>
        refine ⟨_, 51, rfl, rfl, ?_⟩
        have h := h.2.1 e
        refine x_l 52 rfl rfl rfl ?_
        refine z_gf 55 (.ref 151) rfl ⟨rfl, rfl, rfl⟩ rfl rfl ?_
        refine x_l 56 rfl rfl rfl ?_
        have h1 := h.1
        have h := h.2
        refine z_il 57 17 rfl ⟨rfl, rfl, rfl⟩ rfl h1 rfl ?_
        exact x_ri rfl (Or.inl rfl) h
      | 2, _ =>
        refine ⟨_, 58, rfl, rfl, ?_⟩
        have h := h.2.2.1 e
        refine x_l 59 rfl rfl rfl ?_
        refine z_gf 62 (.ref 150) rfl ⟨rfl, rfl, rfl⟩ rfl rfl ?_
        refine x_l 63 rfl rfl rfl ?_
        have h1 := h.1
        have h := h.2
        refine z_il 64 17 rfl ⟨rfl, rfl, rfl⟩ rfl h1 rfl ?_
        refine x_l 65 rfl rfl rfl ?_
        refine z_gf 68 (.ref 151) rfl ⟨rfl, rfl, rfl⟩ rfl rfl ?_
        refine x_l 69 rfl rfl rfl ?_
        have h1 := h.1
        have h := h.2
        refine z_il 70 17 rfl ⟨rfl, rfl, rfl⟩ rfl h1 rfl ?_
        refine x_s 71 rfl rfl rfl ?_
        refine z_k 72 1 rfl (by decide) rfl ?_
        refine x_s 73 rfl rfl rfl ?_
        exact x_ri rfl (Or.inl rfl) h
      | 3, _ =>
        refine ⟨_, 74, rfl, rfl, ?_⟩
        have h := h.2.2.2.1 e
        refine x_l 75 rfl rfl rfl ?_
        refine z_gf 78 (.ref 151) rfl ⟨rfl, rfl, rfl⟩ rfl rfl ?_
        refine x_l 79 rfl rfl rfl ?_
        have h1 := h.1
        have h := h.2
        refine z_il 80 17 rfl ⟨rfl, rfl, rfl⟩ rfl h1 rfl ?_
        refine z_k 81 1 rfl (by decide) rfl ?_
        refine x_b 84 rfl rfl rfl (fun c => ?_) (fun c => ?_)
        · have h := h.1 c
          refine z_k 97 0 rfl (by decide) rfl ?_
          exact x_ri rfl (Or.inl rfl) h
        · have h := h.2 c
          refine x_l 85 rfl rfl rfl ?_
          refine z_gf 88 (.ref 153) rfl ⟨rfl, rfl, rfl⟩ rfl rfl ?_
          refine z_k 90 12 rfl (by decide) rfl ?_
          refine x_l 91 rfl rfl rfl ?_
          refine x_s 92 rfl rfl rfl ?_
          have h1 := h.1
          have h := h.2
          refine z_il 93 204 rfl ⟨rfl, rfl, rfl⟩ rfl h1 rfl ?_
          refine x_g rfl ?_
          exact x_ri rfl (Or.inl rfl) h
      | 4, _ =>
        refine ⟨_, 98, rfl, rfl, ?_⟩
        have h := h.2.2.2.2.1 e
        refine x_l 99 rfl rfl rfl ?_
        refine z_gf 102 (.ref 151) rfl ⟨rfl, rfl, rfl⟩ rfl rfl ?_
        refine x_l 103 rfl rfl rfl ?_
        have h1 := h.1
        have h := h.2
        refine z_il 104 17 rfl ⟨rfl, rfl, rfl⟩ rfl h1 rfl ?_
        refine z_k 105 1 rfl (by decide) rfl ?_
        refine x_b 108 rfl rfl rfl (fun c => ?_) (fun c => ?_)
        · have h := h.1 c
          refine z_k 130 0 rfl (by decide) rfl ?_
          exact x_ri rfl (Or.inl rfl) h
        · have h := h.2 c
          refine x_l 109 rfl rfl rfl ?_
          refine z_gf 112 (.ref 153) rfl ⟨rfl, rfl, rfl⟩ rfl rfl ?_
          refine z_k 114 12 rfl (by decide) rfl ?_
          refine x_l 115 rfl rfl rfl ?_
          refine x_s 116 rfl rfl rfl ?_
          refine x_l 117 rfl rfl rfl ?_
          refine z_gf 120 (.ref 151) rfl ⟨rfl, rfl, rfl⟩ rfl rfl ?_
          refine x_l 121 rfl rfl rfl ?_
          have h1 := h.1
          have h := h.2
          refine z_il 122 17 rfl ⟨rfl, rfl, rfl⟩ rfl h1 rfl ?_
          refine x_s 123 rfl rfl rfl ?_
          refine z_k 124 2 rfl (by decide) rfl ?_
          refine x_s 125 rfl rfl rfl ?_
          have h1 := h.1
          have h := h.2
          refine z_il 126 204 rfl ⟨rfl, rfl, rfl⟩ rfl h1 rfl ?_
          refine x_g rfl ?_
          exact x_ri rfl (Or.inl rfl) h
      | n + 5, hi => exact absurd hi (by omega)
    · have h := h.2.2.2.2.2 c
      refine z_k 132 (-1) rfl (by decide) rfl ?_
      exact x_ri rfl (Or.inl rfl) h
  · have h := h.2 c
    refine z_k 9 (-1) rfl (by decide) rfl ?_
    exact x_ri rfl (Or.inl rfl) h

theorem bk_Mo_strip_0 {k : Nat} {pa pb : Nat} {ga : Nat → Nat} {I : pm_II} {J : pm_JJ} {Q : Option Value → pm_H → Prop} {x1 : Int32} {x2 : Int32} (h : Px k 176 m_Mo_isLine 0 [.ref 120, .int x1] [] (hp I J (pm_RT pa pb ga)) (fun r h' => h'.1 = 176 ∧ Px (k + 1) 176 m_Mo_strip 5 [.ref 120, .int x1, .int x2, .null, .null, .null, .null] (r.toList ++ []) h' Q)) : Px (k + 1) 176 m_Mo_strip 0 [.ref 120, .int x1, .int x2, .null, .null, .null, .null] [] (hp I J (pm_RT pa pb ga)) Q := by
  refine x_l 1 rfl rfl rfl ?_
  refine x_l 2 rfl rfl rfl ?_
  exact z_cv (As := [.int x1]) (rest := []) (b := 120) rfl at_Mo_isLine rfl rfl (Nat.le_of_ble_eq_true rfl) (Nat.le_of_ble_eq_true rfl) ⟨rfl, rfl, rfl⟩ (by decide) rfl h

theorem bk_Mo_strip_5 {k : Nat} {pa pb : Nat} {ga : Nat → Nat} {I : pm_II} {J : pm_JJ} {Q : Option Value → pm_H → Prop} {x1 : Int32} {x2 : Int32} {s0 : Int32} (h : ((s0 = 0 → Q (some (.int (-1))) (hp I J (pm_RT pa pb ga))) ∧ (¬ (s0 = 0) → vp_in x1 17 ∧ Px k 176 m_Mo_is 0 [.int x2, .int 0, .int ((I 150 ((x1 : Int32).toNatClampNeg)) - (1 : Int32))] [] (hp I J (pm_RT pa pb ga)) (fun r h' => h'.1 = 176 ∧ Px (k + 1) 176 m_Mo_strip 21 [.ref 120, .int x1, .int x2, .null, .null, .null, .null] (r.toList ++ []) h' Q)))) : Px (k + 1) 176 m_Mo_strip 5 [.ref 120, .int x1, .int x2, .null, .null, .null, .null] [.int s0] (hp I J (pm_RT pa pb ga)) Q := by
  refine x_b 8 rfl rfl rfl (fun c => ?_) (fun c => ?_)
  · have h := h.1 c
    refine z_k 25 (-1) rfl (by decide) rfl ?_
    exact x_ri rfl (Or.inl rfl) h
  · have h := h.2 c
    refine x_l 9 rfl rfl rfl ?_
    refine z_k 10 0 rfl (by decide) rfl ?_
    refine x_l 11 rfl rfl rfl ?_
    refine z_gf 14 (.ref 150) rfl ⟨rfl, rfl, rfl⟩ rfl rfl ?_
    refine x_l 15 rfl rfl rfl ?_
    have h1 := h.1
    have h := h.2
    refine z_il 16 17 rfl ⟨rfl, rfl, rfl⟩ rfl h1 rfl ?_
    refine z_k 17 1 rfl (by decide) rfl ?_
    refine x_s 18 rfl rfl rfl ?_
    exact z_cs (As := [.int x2, .int 0, .int ((I 150 ((x1 : Int32).toNatClampNeg)) - (1 : Int32))]) (rest := []) rfl at_Mo_is rfl rfl (Nat.le_of_ble_eq_true rfl) (Nat.le_of_ble_eq_true rfl) rfl h

theorem bk_Mo_strip_21 {k : Nat} {pa pb : Nat} {ga : Nat → Nat} {I : pm_II} {J : pm_JJ} {Q : Option Value → pm_H → Prop} {x1 : Int32} {x2 : Int32} {s0 : Int32} (h : ((¬ s0 = 0 → vp_in x1 17 ∧ vp_in (((160 : Int32) * x1) + (((I 150 ((x1 : Int32).toNatClampNeg)) - (1 : Int32)) - x2)) 2624 ∧ (((I 149 (((((160 : Int32) * x1) + (((I 150 ((x1 : Int32).toNatClampNeg)) - (1 : Int32)) - x2)) : Int32).toNatClampNeg)) ≤ 0 → Px (k + 1) 176 m_Mo_strip 65 [.ref 120, .int x1, .int x2, .int (((I 150 ((x1 : Int32).toNatClampNeg)) - (1 : Int32)) - x2), .int (I 149 (((((160 : Int32) * x1) + (((I 150 ((x1 : Int32).toNatClampNeg)) - (1 : Int32)) - x2)) : Int32).toNatClampNeg)), .int 0, .int 0] [] (hp I J (pm_RT pa pb ga)) Q) ∧ (¬ ((I 149 (((((160 : Int32) * x1) + (((I 150 ((x1 : Int32).toNatClampNeg)) - (1 : Int32)) - x2)) : Int32).toNatClampNeg)) ≤ 0) → Q (some (.int (I 149 (((((160 : Int32) * x1) + (((I 150 ((x1 : Int32).toNatClampNeg)) - (1 : Int32)) - x2)) : Int32).toNatClampNeg)))) (hp I J (pm_RT pa pb ga))))) ∧ (¬ (¬ s0 = 0) → Q (some (.int (-1))) (hp I J (pm_RT pa pb ga))))) : Px (k + 1) 176 m_Mo_strip 21 [.ref 120, .int x1, .int x2, .null, .null, .null, .null] [.int s0] (hp I J (pm_RT pa pb ga)) Q := by
  refine x_b 24 rfl rfl rfl (fun c => ?_) (fun c => ?_)
  · have h := h.1 c
    refine x_l 27 rfl rfl rfl ?_
    refine z_gf 30 (.ref 150) rfl ⟨rfl, rfl, rfl⟩ rfl rfl ?_
    refine x_l 31 rfl rfl rfl ?_
    have h1 := h.1
    have h := h.2
    refine z_il 32 17 rfl ⟨rfl, rfl, rfl⟩ rfl h1 rfl ?_
    refine z_k 33 1 rfl (by decide) rfl ?_
    refine x_s 34 rfl rfl rfl ?_
    refine x_l 35 rfl rfl rfl ?_
    refine x_s 36 rfl rfl rfl ?_
    refine x_t 37 rfl rfl rfl ?_
    refine x_l 38 rfl rfl rfl ?_
    refine z_gf 41 (.ref 149) rfl ⟨rfl, rfl, rfl⟩ rfl rfl ?_
    refine z_k 44 160 rfl (by decide) rfl ?_
    refine x_l 45 rfl rfl rfl ?_
    refine x_s 46 rfl rfl rfl ?_
    refine x_l 47 rfl rfl rfl ?_
    refine x_s 48 rfl rfl rfl ?_
    have h1 := h.1
    have h := h.2
    refine z_il 49 2624 rfl ⟨rfl, rfl, rfl⟩ rfl h1 rfl ?_
    refine x_t 51 rfl rfl rfl ?_
    refine x_l 53 rfl rfl rfl ?_
    refine x_b 56 rfl rfl rfl (fun c => ?_) (fun c => ?_)
    · have h := h.1 c
      refine z_k 60 0 rfl (by decide) rfl ?_
      refine x_t 62 rfl rfl rfl ?_
      refine z_k 63 0 rfl (by decide) rfl ?_
      refine x_t 65 rfl rfl rfl ?_
      exact h
    · have h := h.2 c
      refine x_l 58 rfl rfl rfl ?_
      exact x_ri rfl (Or.inl rfl) h
  · have h := h.2 c
    refine z_k 25 (-1) rfl (by decide) rfl ?_
    exact x_ri rfl (Or.inl rfl) h

theorem bk_Mo_strip_65 {k : Nat} {pa pb : Nat} {ga : Nat → Nat} {I : pm_II} {J : pm_JJ} {Q : Option Value → pm_H → Prop} {x1 : Int32} {x2 : Int32} {x3 : Int32} {x4 : Int32} {x5 : Int32} {x6 : Int32} (h : ((x3 ≤ x6 → vp_in (((12 : Int32) * x1) + x5) 204 ∧ Px k 176 m_Jm_min_II 0 [.int 40, .int ((27 : Int32) + (I 153 (((((12 : Int32) * x1) + x5) : Int32).toNatClampNeg)))] [] (hp I J (pm_RT pa pb ga)) (fun r h' => h'.1 = 176 ∧ Px (k + 1) 176 m_Mo_strip 123 [.ref 120, .int x1, .int x2, .int x3, .int x4, .int x5, .int x6] (r.toList ++ []) h' Q)) ∧ (¬ (x3 ≤ x6) → vp_in (((160 : Int32) * x1) + x6) 2624 ∧ ((¬ (I 149 (((((160 : Int32) * x1) + x6) : Int32).toNatClampNeg)) = 0 → Px (k + 1) 176 m_Mo_strip 65 [.ref 120, .int x1, .int x2, .int x3, .int x4, .int (x5 + (0 : Int32)), .int (x6 + Int32.ofInt 1)] [] (hp I J (pm_RT pa pb ga)) Q) ∧ (¬ (¬ (I 149 (((((160 : Int32) * x1) + x6) : Int32).toNatClampNeg)) = 0) → Px (k + 1) 176 m_Mo_strip 65 [.ref 120, .int x1, .int x2, .int x3, .int x4, .int (x5 + (1 : Int32)), .int (x6 + Int32.ofInt 1)] [] (hp I J (pm_RT pa pb ga)) Q))))) : Px (k + 1) 176 m_Mo_strip 65 [.ref 120, .int x1, .int x2, .int x3, .int x4, .int x5, .int x6] [] (hp I J (pm_RT pa pb ga)) Q := by
  refine x_l 67 rfl rfl rfl ?_
  refine x_l 68 rfl rfl rfl ?_
  refine x_b 71 rfl rfl rfl (fun c => ?_) (fun c => ?_)
  · have h := h.1 c
    refine z_k 105 40 rfl (by decide) rfl ?_
    refine z_k 107 27 rfl (by decide) rfl ?_
    refine x_l 108 rfl rfl rfl ?_
    refine z_gf 111 (.ref 153) rfl ⟨rfl, rfl, rfl⟩ rfl rfl ?_
    refine z_k 113 12 rfl (by decide) rfl ?_
    refine x_l 114 rfl rfl rfl ?_
    refine x_s 115 rfl rfl rfl ?_
    refine x_l 117 rfl rfl rfl ?_
    refine x_s 118 rfl rfl rfl ?_
    have h1 := h.1
    have h := h.2
    refine z_il 119 204 rfl ⟨rfl, rfl, rfl⟩ rfl h1 rfl ?_
    refine x_s 120 rfl rfl rfl ?_
    exact z_cs (As := [.int 40, .int ((27 : Int32) + (I 153 (((((12 : Int32) * x1) + x5) : Int32).toNatClampNeg)))]) (rest := []) rfl at_Jm_min_II rfl rfl (Nat.le_of_ble_eq_true rfl) (Nat.le_of_ble_eq_true rfl) rfl h
  · have h := h.2 c
    refine x_l 73 rfl rfl rfl ?_
    refine x_l 74 rfl rfl rfl ?_
    refine z_gf 77 (.ref 149) rfl ⟨rfl, rfl, rfl⟩ rfl rfl ?_
    refine z_k 80 160 rfl (by decide) rfl ?_
    refine x_l 81 rfl rfl rfl ?_
    refine x_s 82 rfl rfl rfl ?_
    refine x_l 84 rfl rfl rfl ?_
    refine x_s 85 rfl rfl rfl ?_
    have h1 := h.1
    have h := h.2
    refine z_il 86 2624 rfl ⟨rfl, rfl, rfl⟩ rfl h1 rfl ?_
    refine x_b 89 rfl rfl rfl (fun c => ?_) (fun c => ?_)
    · have h := h.1 c
      refine z_k 94 0 rfl (by decide) rfl ?_
      refine x_s 95 rfl rfl rfl ?_
      refine x_t 97 rfl rfl rfl ?_
      refine x_t 100 rfl rfl rfl ?_
      refine x_g rfl ?_
      exact h
    · have h := h.2 c
      refine z_k 90 1 rfl (by decide) rfl ?_
      refine x_g rfl ?_
      refine x_s 95 rfl rfl rfl ?_
      refine x_t 97 rfl rfl rfl ?_
      refine x_t 100 rfl rfl rfl ?_
      refine x_g rfl ?_
      exact h

theorem bk_Mo_strip_123 {k : Nat} {pa pb : Nat} {ga : Nat → Nat} {I : pm_II} {J : pm_JJ} {Q : Option Value → pm_H → Prop} {x1 : Int32} {x2 : Int32} {x3 : Int32} {x4 : Int32} {x5 : Int32} {x6 : Int32} {s0 : Int32} (h : Q (some (.int s0)) (hp I J (pm_RT pa pb ga))) : Px (k + 1) 176 m_Mo_strip 123 [.ref 120, .int x1, .int x2, .int x3, .int x4, .int x5, .int x6] [.int s0] (hp I J (pm_RT pa pb ga)) Q := by
  exact x_ri rfl (Or.inl rfl) h

theorem bk_Mo_left_0 {k : Nat} {pa pb : Nat} {ga : Nat → Nat} {I : pm_II} {J : pm_JJ} {Q : Option Value → pm_H → Prop} {x1 : Int32} (h : Px k 176 m_Mo_is 0 [.int x1, .int 1, .int 26] [] (hp I J (pm_RT pa pb ga)) (fun r h' => h'.1 = 176 ∧ Px (k + 1) 176 m_Mo_left 7 [.ref 120, .int x1] (r.toList ++ []) h' Q)) : Px (k + 1) 176 m_Mo_left 0 [.ref 120, .int x1] [] (hp I J (pm_RT pa pb ga)) Q := by
  refine x_l 1 rfl rfl rfl ?_
  refine z_k 2 1 rfl (by decide) rfl ?_
  refine z_k 4 26 rfl (by decide) rfl ?_
  exact z_cs (As := [.int x1, .int 1, .int 26]) (rest := []) rfl at_Mo_is rfl rfl (Nat.le_of_ble_eq_true rfl) (Nat.le_of_ble_eq_true rfl) rfl h

theorem bk_Mo_left_7 {k : Nat} {pa pb : Nat} {ga : Nat → Nat} {I : pm_II} {J : pm_JJ} {Q : Option Value → pm_H → Prop} {x1 : Int32} {s0 : Int32} (h : ((s0 = 0 → Q (some (.int (-1))) (hp I J (pm_RT pa pb ga))) ∧ (¬ (s0 = 0) → vp_in x1 27 ∧ Q (some (.int (I 146 ((x1 : Int32).toNatClampNeg)))) (hp I J (pm_RT pa pb ga))))) : Px (k + 1) 176 m_Mo_left 7 [.ref 120, .int x1] [.int s0] (hp I J (pm_RT pa pb ga)) Q := by
  refine x_b 10 rfl rfl rfl (fun c => ?_) (fun c => ?_)
  · have h := h.1 c
    refine z_k 20 (-1) rfl (by decide) rfl ?_
    exact x_ri rfl (Or.inl rfl) h
  · have h := h.2 c
    refine x_l 11 rfl rfl rfl ?_
    refine z_gf 14 (.ref 146) rfl ⟨rfl, rfl, rfl⟩ rfl rfl ?_
    refine x_l 15 rfl rfl rfl ?_
    have h1 := h.1
    have h := h.2
    refine z_il 16 27 rfl ⟨rfl, rfl, rfl⟩ rfl h1 rfl ?_
    refine x_g rfl ?_
    exact x_ri rfl (Or.inl rfl) h

theorem bk_Mo_pile_0 {k : Nat} {pa pb : Nat} {ga : Nat → Nat} {I : pm_II} {J : pm_JJ} {Q : Option Value → pm_H → Prop} {x1 : Int32} {x2 : Int32} (h : Px k 176 m_Mo_is 0 [.int x1, .int 1, .int 999] [] (hp I J (pm_RT pa pb ga)) (fun r h' => h'.1 = 176 ∧ Px (k + 1) 176 m_Mo_pile 8 [.ref 120, .int x1, .int x2, .null, .null, .null, .null] (r.toList ++ []) h' Q)) : Px (k + 1) 176 m_Mo_pile 0 [.ref 120, .int x1, .int x2, .null, .null, .null, .null] [] (hp I J (pm_RT pa pb ga)) Q := by
  refine x_l 1 rfl rfl rfl ?_
  refine z_k 2 1 rfl (by decide) rfl ?_
  refine z_k 5 999 rfl (by decide) rfl ?_
  exact z_cs (As := [.int x1, .int 1, .int 999]) (rest := []) rfl at_Mo_is rfl rfl (Nat.le_of_ble_eq_true rfl) (Nat.le_of_ble_eq_true rfl) rfl h

theorem bk_Mo_pile_8 {k : Nat} {pa pb : Nat} {ga : Nat → Nat} {I : pm_II} {J : pm_JJ} {Q : Option Value → pm_H → Prop} {x1 : Int32} {x2 : Int32} {s0 : Int32} (h : ((s0 = 0 → Q (some (.int (-1))) (hp I J (pm_RT pa pb ga))) ∧ (¬ (s0 = 0) → Px k 176 m_Mo_is 0 [.int x2, .int 1, .int 999] [] (hp I J (pm_RT pa pb ga)) (fun r h' => h'.1 = 176 ∧ Px (k + 1) 176 m_Mo_pile 19 [.ref 120, .int x1, .int x2, .null, .null, .null, .null] (r.toList ++ []) h' Q)))) : Px (k + 1) 176 m_Mo_pile 8 [.ref 120, .int x1, .int x2, .null, .null, .null, .null] [.int s0] (hp I J (pm_RT pa pb ga)) Q := by
  refine x_b 11 rfl rfl rfl (fun c => ?_) (fun c => ?_)
  · have h := h.1 c
    refine z_k 23 (-1) rfl (by decide) rfl ?_
    exact x_ri rfl (Or.inl rfl) h
  · have h := h.2 c
    refine x_l 12 rfl rfl rfl ?_
    refine z_k 13 1 rfl (by decide) rfl ?_
    refine z_k 16 999 rfl (by decide) rfl ?_
    exact z_cs (As := [.int x2, .int 1, .int 999]) (rest := []) rfl at_Mo_is rfl rfl (Nat.le_of_ble_eq_true rfl) (Nat.le_of_ble_eq_true rfl) rfl h

theorem bk_Mo_pile_19 {k : Nat} {pa pb : Nat} {ga : Nat → Nat} {I : pm_II} {J : pm_JJ} {Q : Option Value → pm_H → Prop} {x1 : Int32} {x2 : Int32} {s0 : Int32} (h : ((¬ s0 = 0 → Px k 176 m_Mo_take 0 [.ref 120, .null] [] (hp I J (pm_RT pa pb ga)) (fun r h' => h'.1 = 176 ∧ Px (k + 1) 176 m_Mo_pile 28 [.ref 120, .int x1, .int x2, .null, .null, .null, .null] (r.toList ++ []) h' Q)) ∧ (¬ (¬ s0 = 0) → Q (some (.int (-1))) (hp I J (pm_RT pa pb ga))))) : Px (k + 1) 176 m_Mo_pile 19 [.ref 120, .int x1, .int x2, .null, .null, .null, .null] [.int s0] (hp I J (pm_RT pa pb ga)) Q := by
  refine x_b 22 rfl rfl rfl (fun c => ?_) (fun c => ?_)
  · have h := h.1 c
    refine x_l 25 rfl rfl rfl ?_
    exact z_cv (As := []) (rest := []) (b := 120) rfl at_Mo_take rfl rfl (Nat.le_of_ble_eq_true rfl) (Nat.le_of_ble_eq_true rfl) ⟨rfl, rfl, rfl⟩ (by decide) rfl h
  · have h := h.2 c
    refine z_k 23 (-1) rfl (by decide) rfl ?_
    exact x_ri rfl (Or.inl rfl) h

theorem bk_Mo_pile_28 {k : Nat} {pa pb : Nat} {ga : Nat → Nat} {I : pm_II} {J : pm_JJ} {Q : Option Value → pm_H → Prop} {x1 : Int32} {x2 : Int32} (h : Px (k + 1) 176 m_Mo_pile 58 [.ref 120, .int x1, .int x2, .int 1, .null, .null, .null] [] (hp (pm_up (pm_up (pm_up (pm_up I 158 0 0) 159 0 0) 160 0 x1) 161 0 x2) J (pm_RT pa pb ga)) Q) : Px (k + 1) 176 m_Mo_pile 28 [.ref 120, .int x1, .int x2, .null, .null, .null, .null] [] (hp I J (pm_RT pa pb ga)) Q := by
  refine z_k 29 1 rfl (by decide) rfl ?_
  refine x_t 30 rfl rfl rfl ?_
  refine x_l 31 rfl rfl rfl ?_
  refine z_gf 34 (.ref 158) rfl ⟨rfl, rfl, rfl⟩ rfl rfl ?_
  refine z_k 35 0 rfl (by decide) rfl ?_
  refine z_k 36 0 rfl (by decide) rfl ?_
  refine z_is 37 32 rfl ⟨rfl, rfl, rfl⟩ rfl (by unfold vp_in; decide) rfl ?_
  refine x_l 38 rfl rfl rfl ?_
  refine z_gf 41 (.ref 159) rfl ⟨rfl, rfl, rfl⟩ rfl rfl ?_
  refine z_k 42 0 rfl (by decide) rfl ?_
  refine z_k 43 0 rfl (by decide) rfl ?_
  refine z_is 44 32 rfl ⟨rfl, rfl, rfl⟩ rfl (by unfold vp_in; decide) rfl ?_
  refine x_l 45 rfl rfl rfl ?_
  refine z_gf 48 (.ref 160) rfl ⟨rfl, rfl, rfl⟩ rfl rfl ?_
  refine z_k 49 0 rfl (by decide) rfl ?_
  refine x_l 50 rfl rfl rfl ?_
  refine z_is 51 32 rfl ⟨rfl, rfl, rfl⟩ rfl (by unfold vp_in; decide) rfl ?_
  refine x_l 52 rfl rfl rfl ?_
  refine z_gf 55 (.ref 161) rfl ⟨rfl, rfl, rfl⟩ rfl rfl ?_
  refine z_k 56 0 rfl (by decide) rfl ?_
  refine x_l 57 rfl rfl rfl ?_
  refine z_is 58 32 rfl ⟨rfl, rfl, rfl⟩ rfl (by unfold vp_in; decide) rfl ?_
  exact h

theorem bk_Mo_pile_58 {k : Nat} {pa pb : Nat} {ga : Nat → Nat} {I : pm_II} {J : pm_JJ} {Q : Option Value → pm_H → Prop} {x1 : Int32} {x2 : Int32} {x3 : Int32} (h : Px k 176 m_Mo_bad 0 [.ref 120] [] (hp I J (pm_RT pa pb ga)) (fun r h' => h'.1 = 176 ∧ Px (k + 1) 176 m_Mo_pile 62 [.ref 120, .int x1, .int x2, .int x3, .null, .null, .null] (r.toList ++ []) h' Q)) : Px (k + 1) 176 m_Mo_pile 58 [.ref 120, .int x1, .int x2, .int x3, .null, .null, .null] [] (hp I J (pm_RT pa pb ga)) Q := by
  refine x_l 59 rfl rfl rfl ?_
  exact z_cv (As := []) (rest := []) (b := 120) rfl at_Mo_bad rfl rfl (Nat.le_of_ble_eq_true rfl) (Nat.le_of_ble_eq_true rfl) ⟨rfl, rfl, rfl⟩ (by decide) rfl h

theorem bk_Mo_pile_62 {k : Nat} {pa pb : Nat} {ga : Nat → Nat} {I : pm_II} {J : pm_JJ} {Q : Option Value → pm_H → Prop} {x1 : Int32} {x2 : Int32} {x3 : Int32} {s0 : Int32} (h : ((¬ s0 = 0 → Px (k + 1) 176 m_Mo_pile 374 [.ref 120, .int x1, .int x2, .int x3, .null, .null, .null] [] (hp I J (pm_RT pa pb ga)) Q) ∧ (¬ (¬ s0 = 0) → (((I 120 3) ≤ (I 120 4) → Px (k + 1) 176 m_Mo_pile 374 [.ref 120, .int x1, .int x2, .int x3, .null, .null, .null] [] (hp I J (pm_RT pa pb ga)) Q) ∧ (¬ ((I 120 3) ≤ (I 120 4)) → ((31 ≤ x3 → Px (k + 1) 176 m_Mo_pile 97 [.ref 120, .int x1, .int x2, .int x3, .null, .null, .null] [.int 0] (hp I J (pm_RT pa pb ga)) Q) ∧ (¬ (31 ≤ x3) → Px k 176 m_Mo_isWord 0 [.ref 120, .ref 9, .null, .null, .null] [] (hp I J (pm_RT pa pb ga)) (fun r h' => h'.1 = 176 ∧ Px (k + 1) 176 m_Mo_pile 89 [.ref 120, .int x1, .int x2, .int x3, .null, .null, .null] (r.toList ++ []) h' Q)))))))) : Px (k + 1) 176 m_Mo_pile 62 [.ref 120, .int x1, .int x2, .int x3, .null, .null, .null] [.int s0] (hp I J (pm_RT pa pb ga)) Q := by
  refine x_b 65 rfl rfl rfl (fun c => ?_) (fun c => ?_)
  · have h := h.1 c
    exact h
  · have h := h.2 c
    refine x_l 66 rfl rfl rfl ?_
    refine z_gf 69 (.int (I 120 4)) rfl ⟨rfl, rfl, rfl⟩ rfl rfl ?_
    refine x_l 70 rfl rfl rfl ?_
    refine z_gf 73 (.int (I 120 3)) rfl ⟨rfl, rfl, rfl⟩ rfl rfl ?_
    refine x_b 76 rfl rfl rfl (fun c => ?_) (fun c => ?_)
    · have h := h.1 c
      exact h
    · have h := h.2 c
      refine x_l 77 rfl rfl rfl ?_
      refine z_k 79 31 rfl (by decide) rfl ?_
      refine x_b 82 rfl rfl rfl (fun c => ?_) (fun c => ?_)
      · have h := h.1 c
        refine z_k 97 0 rfl (by decide) rfl ?_
        exact h
      · have h := h.2 c
        refine x_l 83 rfl rfl rfl ?_
        refine x_ls 86 rfl (Or.inr rfl) rfl ?_
        exact z_cv (As := [.ref 9]) (rest := []) (b := 120) rfl at_Mo_isWord rfl rfl (Nat.le_of_ble_eq_true rfl) (Nat.le_of_ble_eq_true rfl) ⟨rfl, rfl, rfl⟩ (by decide) rfl h

theorem bk_Mo_pile_89 {k : Nat} {pa pb : Nat} {ga : Nat → Nat} {I : pm_II} {J : pm_JJ} {Q : Option Value → pm_H → Prop} {x1 : Int32} {x2 : Int32} {x3 : Int32} {s0 : Int32} (h : ((s0 = 0 → Px (k + 1) 176 m_Mo_pile 97 [.ref 120, .int x1, .int x2, .int x3, .null, .null, .null] [.int 0] (hp I J (pm_RT pa pb ga)) Q) ∧ (¬ (s0 = 0) → Px (k + 1) 176 m_Mo_pile 97 [.ref 120, .int x1, .int x2, .int x3, .null, .null, .null] [.int 1] (hp I J (pm_RT pa pb ga)) Q))) : Px (k + 1) 176 m_Mo_pile 89 [.ref 120, .int x1, .int x2, .int x3, .null, .null, .null] [.int s0] (hp I J (pm_RT pa pb ga)) Q := by
  refine x_b 92 rfl rfl rfl (fun c => ?_) (fun c => ?_)
  · have h := h.1 c
    refine z_k 97 0 rfl (by decide) rfl ?_
    exact h
  · have h := h.2 c
    refine z_k 93 1 rfl (by decide) rfl ?_
    refine x_g rfl ?_
    exact h

theorem bk_Mo_pile_97 {k : Nat} {pa pb : Nat} {ga : Nat → Nat} {I : pm_II} {J : pm_JJ} {Q : Option Value → pm_H → Prop} {x1 : Int32} {x2 : Int32} {x3 : Int32} {s0 : Int32} (h : ((x3 = 31 → Px (k + 1) 176 m_Mo_pile 120 [.ref 120, .int x1, .int x2, .int x3, .int s0, .null, .null] [] (hp I J (pm_RT pa pb ga)) Q) ∧ (¬ (x3 = 31) → ((¬ s0 = 0 → Px (k + 1) 176 m_Mo_pile 128 [.ref 120, .int x1, .int x2, .int x3, .int s0, .null, .null] [] (hp I J (pm_RT pa pb ga)) Q) ∧ (¬ (¬ s0 = 0) → Px k 176 m_Mo_isWord 0 [.ref 120, .ref 10, .null, .null, .null] [] (hp I J (pm_RT pa pb ga)) (fun r h' => h'.1 = 176 ∧ Px (k + 1) 176 m_Mo_pile 117 [.ref 120, .int x1, .int x2, .int x3, .int s0, .null, .null] (r.toList ++ []) h' Q)))))) : Px (k + 1) 176 m_Mo_pile 97 [.ref 120, .int x1, .int x2, .int x3, .null, .null, .null] [.int s0] (hp I J (pm_RT pa pb ga)) Q := by
  refine x_t 99 rfl rfl rfl ?_
  refine x_l 100 rfl rfl rfl ?_
  refine z_k 102 31 rfl (by decide) rfl ?_
  refine x_b 105 rfl rfl rfl (fun c => ?_) (fun c => ?_)
  · have h := h.1 c
    exact h
  · have h := h.2 c
    refine x_l 107 rfl rfl rfl ?_
    refine x_b 110 rfl rfl rfl (fun c => ?_) (fun c => ?_)
    · have h := h.1 c
      exact h
    · have h := h.2 c
      refine x_l 111 rfl rfl rfl ?_
      refine x_ls 114 rfl (Or.inr rfl) rfl ?_
      exact z_cv (As := [.ref 10]) (rest := []) (b := 120) rfl at_Mo_isWord rfl rfl (Nat.le_of_ble_eq_true rfl) (Nat.le_of_ble_eq_true rfl) ⟨rfl, rfl, rfl⟩ (by decide) rfl h

theorem bk_Mo_pile_117 {k : Nat} {pa pb : Nat} {ga : Nat → Nat} {I : pm_II} {J : pm_JJ} {Q : Option Value → pm_H → Prop} {x1 : Int32} {x2 : Int32} {x3 : Int32} {x4 : Int32} {s0 : Int32} (h : ((¬ s0 = 0 → Px (k + 1) 176 m_Mo_pile 128 [.ref 120, .int x1, .int x2, .int x3, .int x4, .null, .null] [] (hp I J (pm_RT pa pb ga)) Q) ∧ (¬ (¬ s0 = 0) → Px (k + 1) 176 m_Mo_pile 120 [.ref 120, .int x1, .int x2, .int x3, .int x4, .null, .null] [] (hp I J (pm_RT pa pb ga)) Q))) : Px (k + 1) 176 m_Mo_pile 117 [.ref 120, .int x1, .int x2, .int x3, .int x4, .null, .null] [.int s0] (hp I J (pm_RT pa pb ga)) Q := by
  refine x_b 120 rfl rfl rfl (fun c => ?_) (fun c => ?_)
  · have h := h.1 c
    exact h
  · have h := h.2 c
    exact h

theorem bk_Mo_pile_120 {k : Nat} {pa pb : Nat} {ga : Nat → Nat} {I : pm_II} {J : pm_JJ} {Q : Option Value → pm_H → Prop} {x1 : Int32} {x2 : Int32} {x3 : Int32} {x4 : Int32} (h : Px k 176 m_Mo_fail 0 [.ref 120, .int (I 120 4)] [] (hp I J (pm_RT pa pb ga)) (fun r h' => h'.1 = 176 ∧ Px (k + 1) 176 m_Mo_pile 128 [.ref 120, .int x1, .int x2, .int x3, .int x4, .null, .null] (r.toList ++ []) h' Q)) : Px (k + 1) 176 m_Mo_pile 120 [.ref 120, .int x1, .int x2, .int x3, .int x4, .null, .null] [] (hp I J (pm_RT pa pb ga)) Q := by
  refine x_l 121 rfl rfl rfl ?_
  refine x_l 122 rfl rfl rfl ?_
  refine z_gf 125 (.int (I 120 4)) rfl ⟨rfl, rfl, rfl⟩ rfl rfl ?_
  exact z_cv (As := [.int (I 120 4)]) (rest := []) (b := 120) rfl at_Mo_fail rfl rfl (Nat.le_of_ble_eq_true rfl) (Nat.le_of_ble_eq_true rfl) ⟨rfl, rfl, rfl⟩ (by decide) rfl h

theorem bk_Mo_pile_128 {k : Nat} {pa pb : Nat} {ga : Nat → Nat} {I : pm_II} {J : pm_JJ} {Q : Option Value → pm_H → Prop} {x1 : Int32} {x2 : Int32} {x3 : Int32} {x4 : Int32} (h : Px k 176 m_Mo_behind 0 [.ref 120, .int 0, .int (x3 - (1 : Int32))] [] (hp I J (pm_RT pa pb ga)) (fun r h' => h'.1 = 176 ∧ Px (k + 1) 176 m_Mo_pile 136 [.ref 120, .int x1, .int x2, .int x3, .int x4, .null, .null] (r.toList ++ []) h' Q)) : Px (k + 1) 176 m_Mo_pile 128 [.ref 120, .int x1, .int x2, .int x3, .int x4, .null, .null] [] (hp I J (pm_RT pa pb ga)) Q := by
  refine x_l 129 rfl rfl rfl ?_
  refine z_k 130 0 rfl (by decide) rfl ?_
  refine x_l 131 rfl rfl rfl ?_
  refine z_k 132 1 rfl (by decide) rfl ?_
  refine x_s 133 rfl rfl rfl ?_
  exact z_cv (As := [.int 0, .int (x3 - (1 : Int32))]) (rest := []) (b := 120) rfl at_Mo_behind rfl rfl (Nat.le_of_ble_eq_true rfl) (Nat.le_of_ble_eq_true rfl) ⟨rfl, rfl, rfl⟩ (by decide) rfl h

theorem bk_Mo_pile_136 {k : Nat} {pa pb : Nat} {ga : Nat → Nat} {I : pm_II} {J : pm_JJ} {Q : Option Value → pm_H → Prop} {x1 : Int32} {x2 : Int32} {x3 : Int32} {x4 : Int32} {s0 : Int32} (h : Px k 176 m_Mo_bad 0 [.ref 120] [] (hp I J (pm_RT pa pb ga)) (fun r h' => h'.1 = 176 ∧ Px (k + 1) 176 m_Mo_pile 142 [.ref 120, .int x1, .int x2, .int x3, .int x4, .int s0, .null] (r.toList ++ []) h' Q)) : Px (k + 1) 176 m_Mo_pile 136 [.ref 120, .int x1, .int x2, .int x3, .int x4, .null, .null] [.int s0] (hp I J (pm_RT pa pb ga)) Q := by
  refine x_t 138 rfl rfl rfl ?_
  refine x_l 139 rfl rfl rfl ?_
  exact z_cv (As := []) (rest := []) (b := 120) rfl at_Mo_bad rfl rfl (Nat.le_of_ble_eq_true rfl) (Nat.le_of_ble_eq_true rfl) ⟨rfl, rfl, rfl⟩ (by decide) rfl h

theorem bk_Mo_pile_142 {k : Nat} {pa pb : Nat} {ga : Nat → Nat} {I : pm_II} {J : pm_JJ} {Q : Option Value → pm_H → Prop} {x1 : Int32} {x2 : Int32} {x3 : Int32} {x4 : Int32} {x5 : Int32} {s0 : Int32} (h : ((s0 = 0 → ((x4 = 0 → vp_in x5 32 ∧ Px (k + 1) 176 m_Mo_pile 173 [.ref 120, .int x1, .int x2, .int x3, .int x4, .int x5, .null] [.int (I 161 ((x5 : Int32).toNatClampNeg)), .int 1, .ref 120] (hp I J (pm_RT pa pb ga)) Q) ∧ (¬ (x4 = 0) → vp_in x5 32 ∧ Px (k + 1) 176 m_Mo_pile 173 [.ref 120, .int x1, .int x2, .int x3, .int x4, .int x5, .null] [.int (I 160 ((x5 : Int32).toNatClampNeg)), .int 1, .ref 120] (hp I J (pm_RT pa pb ga)) Q))) ∧ (¬ (s0 = 0) → Px (k + 1) 176 m_Mo_pile 178 [.ref 120, .int x1, .int x2, .int x3, .int x4, .int x5, .null] [.int 0] (hp I J (pm_RT pa pb ga)) Q))) : Px (k + 1) 176 m_Mo_pile 142 [.ref 120, .int x1, .int x2, .int x3, .int x4, .int x5, .null] [.int s0] (hp I J (pm_RT pa pb ga)) Q := by
  refine x_b 145 rfl rfl rfl (fun c => ?_) (fun c => ?_)
  · have h := h.1 c
    refine x_l 150 rfl rfl rfl ?_
    refine z_k 151 1 rfl (by decide) rfl ?_
    refine x_l 153 rfl rfl rfl ?_
    refine x_b 156 rfl rfl rfl (fun c => ?_) (fun c => ?_)
    · have h := h.1 c
      refine x_l 167 rfl rfl rfl ?_
      refine z_gf 170 (.ref 161) rfl ⟨rfl, rfl, rfl⟩ rfl rfl ?_
      refine x_l 172 rfl rfl rfl ?_
      have h1 := h.1
      have h := h.2
      refine z_il 173 32 rfl ⟨rfl, rfl, rfl⟩ rfl h1 rfl ?_
      exact h
    · have h := h.2 c
      refine x_l 157 rfl rfl rfl ?_
      refine z_gf 160 (.ref 160) rfl ⟨rfl, rfl, rfl⟩ rfl rfl ?_
      refine x_l 162 rfl rfl rfl ?_
      have h1 := h.1
      have h := h.2
      refine z_il 163 32 rfl ⟨rfl, rfl, rfl⟩ rfl h1 rfl ?_
      refine x_g rfl ?_
      exact h
  · have h := h.2 c
    refine z_k 146 0 rfl (by decide) rfl ?_
    refine x_g rfl ?_
    exact h

theorem bk_Mo_pile_173 {k : Nat} {pa pb : Nat} {ga : Nat → Nat} {I : pm_II} {J : pm_JJ} {Q : Option Value → pm_H → Prop} {x1 : Int32} {x2 : Int32} {x3 : Int32} {x4 : Int32} {x5 : Int32} {s1 : Int32} {s2 : Int32} (h : Px k 176 m_Mo_behind 0 [.ref 120, .int s1, .int (s2 - (1 : Int32))] [] (hp I J (pm_RT pa pb ga)) (fun r h' => h'.1 = 176 ∧ Px (k + 1) 176 m_Mo_pile 178 [.ref 120, .int x1, .int x2, .int x3, .int x4, .int x5, .null] (r.toList ++ []) h' Q)) : Px (k + 1) 176 m_Mo_pile 173 [.ref 120, .int x1, .int x2, .int x3, .int x4, .int x5, .null] [.int s2, .int s1, .ref 120] (hp I J (pm_RT pa pb ga)) Q := by
  refine z_k 174 1 rfl (by decide) rfl ?_
  refine x_s 175 rfl rfl rfl ?_
  exact z_cv (As := [.int s1, .int (s2 - (1 : Int32))]) (rest := []) (b := 120) rfl at_Mo_behind rfl rfl (Nat.le_of_ble_eq_true rfl) (Nat.le_of_ble_eq_true rfl) ⟨rfl, rfl, rfl⟩ (by decide) rfl h

theorem bk_Mo_pile_178 {k : Nat} {pa pb : Nat} {ga : Nat → Nat} {I : pm_II} {J : pm_JJ} {Q : Option Value → pm_H → Prop} {x1 : Int32} {x2 : Int32} {x3 : Int32} {x4 : Int32} {x5 : Int32} {s0 : Int32} (h : Px k 176 m_Mo_need 0 [.ref 120, .int 10] [] (hp I J (pm_RT pa pb ga)) (fun r h' => h'.1 = 176 ∧ Px (k + 1) 176 m_Mo_pile 186 [.ref 120, .int x1, .int x2, .int x3, .int x4, .int x5, .int s0] (r.toList ++ []) h' Q)) : Px (k + 1) 176 m_Mo_pile 178 [.ref 120, .int x1, .int x2, .int x3, .int x4, .int x5, .null] [.int s0] (hp I J (pm_RT pa pb ga)) Q := by
  refine x_t 180 rfl rfl rfl ?_
  refine x_l 181 rfl rfl rfl ?_
  refine z_k 183 10 rfl (by decide) rfl ?_
  exact z_cv (As := [.int 10]) (rest := []) (b := 120) rfl at_Mo_need rfl rfl (Nat.le_of_ble_eq_true rfl) (Nat.le_of_ble_eq_true rfl) ⟨rfl, rfl, rfl⟩ (by decide) rfl h

theorem bk_Mo_pile_186 {k : Nat} {pa pb : Nat} {ga : Nat → Nat} {I : pm_II} {J : pm_JJ} {Q : Option Value → pm_H → Prop} {x1 : Int32} {x2 : Int32} {x3 : Int32} {x4 : Int32} {x5 : Int32} {x6 : Int32} (h : Px k 176 m_Mo_bad 0 [.ref 120] [] (hp I J (pm_RT pa pb ga)) (fun r h' => h'.1 = 176 ∧ Px (k + 1) 176 m_Mo_pile 190 [.ref 120, .int x1, .int x2, .int x3, .int x4, .int x5, .int x6] (r.toList ++ []) h' Q)) : Px (k + 1) 176 m_Mo_pile 186 [.ref 120, .int x1, .int x2, .int x3, .int x4, .int x5, .int x6] [] (hp I J (pm_RT pa pb ga)) Q := by
  refine x_l 187 rfl rfl rfl ?_
  exact z_cv (As := []) (rest := []) (b := 120) rfl at_Mo_bad rfl rfl (Nat.le_of_ble_eq_true rfl) (Nat.le_of_ble_eq_true rfl) ⟨rfl, rfl, rfl⟩ (by decide) rfl h

theorem bk_Mo_pile_190 {k : Nat} {pa pb : Nat} {ga : Nat → Nat} {I : pm_II} {J : pm_JJ} {Q : Option Value → pm_H → Prop} {x1 : Int32} {x2 : Int32} {x3 : Int32} {x4 : Int32} {x5 : Int32} {x6 : Int32} {s0 : Int32} (h : ((s0 = 0 → ((x4 = 0 → vp_in x5 32 ∧ Px (k + 1) 176 m_Mo_pile 226 [.ref 120, .int x1, .int x2, .int x3, .int x4, .int x5, .int x6] [.int (I 158 ((x5 : Int32).toNatClampNeg)), .int x3, .ref 158] (hp I J (pm_RT pa pb ga)) Q) ∧ (¬ (x4 = 0) → vp_in x5 32 ∧ Px (k + 1) 176 m_Mo_pile 226 [.ref 120, .int x1, .int x2, .int x3, .int x4, .int x5, .int x6] [.int ((I 158 ((x5 : Int32).toNatClampNeg)) + x6), .int x3, .ref 158] (hp I J (pm_RT pa pb ga)) Q))) ∧ (¬ (s0 = 0) → Px (k + 1) 176 m_Mo_pile 58 [.ref 120, .int x1, .int x2, .int x3, .int x4, .int x5, .int x6] [] (hp I J (pm_RT pa pb ga)) Q))) : Px (k + 1) 176 m_Mo_pile 190 [.ref 120, .int x1, .int x2, .int x3, .int x4, .int x5, .int x6] [.int s0] (hp I J (pm_RT pa pb ga)) Q := by
  refine x_b 193 rfl rfl rfl (fun c => ?_) (fun c => ?_)
  · have h := h.1 c
    refine x_l 197 rfl rfl rfl ?_
    refine z_gf 200 (.ref 158) rfl ⟨rfl, rfl, rfl⟩ rfl rfl ?_
    refine x_l 201 rfl rfl rfl ?_
    refine x_l 203 rfl rfl rfl ?_
    refine x_b 206 rfl rfl rfl (fun c => ?_) (fun c => ?_)
    · have h := h.1 c
      refine x_l 220 rfl rfl rfl ?_
      refine z_gf 223 (.ref 158) rfl ⟨rfl, rfl, rfl⟩ rfl rfl ?_
      refine x_l 225 rfl rfl rfl ?_
      have h1 := h.1
      have h := h.2
      refine z_il 226 32 rfl ⟨rfl, rfl, rfl⟩ rfl h1 rfl ?_
      exact h
    · have h := h.2 c
      refine x_l 207 rfl rfl rfl ?_
      refine z_gf 210 (.ref 158) rfl ⟨rfl, rfl, rfl⟩ rfl rfl ?_
      refine x_l 212 rfl rfl rfl ?_
      have h1 := h.1
      have h := h.2
      refine z_il 213 32 rfl ⟨rfl, rfl, rfl⟩ rfl h1 rfl ?_
      refine x_l 215 rfl rfl rfl ?_
      refine x_s 216 rfl rfl rfl ?_
      refine x_g rfl ?_
      exact h
  · have h := h.2 c
    refine x_g rfl ?_
    exact h

theorem bk_Mo_pile_226 {k : Nat} {pa pb : Nat} {ga : Nat → Nat} {I : pm_II} {J : pm_JJ} {Q : Option Value → pm_H → Prop} {x1 : Int32} {x2 : Int32} {x3 : Int32} {x4 : Int32} {x5 : Int32} {x6 : Int32} {s1 : Int32} {s2 : Int32} (h : vp_in s1 32 ∧ ((x4 = 0 → vp_in x5 32 ∧ Px (k + 1) 176 m_Mo_pile 257 [.ref 120, .int x1, .int x2, .int x3, .int x4, .int x5, .int x6] [.int ((I 159 ((x5 : Int32).toNatClampNeg)) + x6), .int x3, .ref 159] (hp (pm_up I 158 ((s1 : Int32).toNatClampNeg) s2) J (pm_RT pa pb ga)) Q) ∧ (¬ (x4 = 0) → vp_in x5 32 ∧ Px (k + 1) 176 m_Mo_pile 257 [.ref 120, .int x1, .int x2, .int x3, .int x4, .int x5, .int x6] [.int (I 159 ((x5 : Int32).toNatClampNeg)), .int x3, .ref 159] (hp (pm_up I 158 ((s1 : Int32).toNatClampNeg) s2) J (pm_RT pa pb ga)) Q))) : Px (k + 1) 176 m_Mo_pile 226 [.ref 120, .int x1, .int x2, .int x3, .int x4, .int x5, .int x6] [.int s2, .int s1, .ref 158] (hp I J (pm_RT pa pb ga)) Q := by
  have h1 := h.1
  have h := h.2
  refine z_is 227 32 rfl ⟨rfl, rfl, rfl⟩ rfl h1 rfl ?_
  refine x_l 228 rfl rfl rfl ?_
  refine z_gf 231 (.ref 159) rfl ⟨rfl, rfl, rfl⟩ rfl rfl ?_
  refine x_l 232 rfl rfl rfl ?_
  refine x_l 234 rfl rfl rfl ?_
  refine x_b 237 rfl rfl rfl (fun c => ?_) (fun c => ?_)
  · have h := h.1 c
    refine x_l 248 rfl rfl rfl ?_
    refine z_gf 251 (.ref 159) rfl ⟨rfl, rfl, rfl⟩ rfl rfl ?_
    refine x_l 253 rfl rfl rfl ?_
    have h1 := h.1
    have h := h.2
    refine z_il 254 32 rfl ⟨rfl, rfl, rfl⟩ rfl h1 rfl ?_
    refine x_l 256 rfl rfl rfl ?_
    refine x_s 257 rfl rfl rfl ?_
    exact h
  · have h := h.2 c
    refine x_l 238 rfl rfl rfl ?_
    refine z_gf 241 (.ref 159) rfl ⟨rfl, rfl, rfl⟩ rfl rfl ?_
    refine x_l 243 rfl rfl rfl ?_
    have h1 := h.1
    have h := h.2
    refine z_il 244 32 rfl ⟨rfl, rfl, rfl⟩ rfl h1 rfl ?_
    refine x_g rfl ?_
    exact h

theorem bk_Mo_pile_257 {k : Nat} {pa pb : Nat} {ga : Nat → Nat} {I : pm_II} {J : pm_JJ} {Q : Option Value → pm_H → Prop} {x1 : Int32} {x2 : Int32} {x3 : Int32} {x4 : Int32} {x5 : Int32} {x6 : Int32} {s1 : Int32} {s2 : Int32} (h : vp_in s1 32 ∧ ((x4 = 0 → vp_in x5 32 ∧ Px (k + 1) 176 m_Mo_pile 288 [.ref 120, .int x1, .int x2, .int x3, .int x4, .int x5, .int x6] [.int (I 160 ((x5 : Int32).toNatClampNeg)), .int x3, .ref 160] (hp (pm_up I 159 ((s1 : Int32).toNatClampNeg) s2) J (pm_RT pa pb ga)) Q) ∧ (¬ (x4 = 0) → vp_in x5 32 ∧ Px (k + 1) 176 m_Mo_pile 288 [.ref 120, .int x1, .int x2, .int x3, .int x4, .int x5, .int x6] [.int ((I 160 ((x5 : Int32).toNatClampNeg)) - x6), .int x3, .ref 160] (hp (pm_up I 159 ((s1 : Int32).toNatClampNeg) s2) J (pm_RT pa pb ga)) Q))) : Px (k + 1) 176 m_Mo_pile 257 [.ref 120, .int x1, .int x2, .int x3, .int x4, .int x5, .int x6] [.int s2, .int s1, .ref 159] (hp I J (pm_RT pa pb ga)) Q := by
  have h1 := h.1
  have h := h.2
  refine z_is 258 32 rfl ⟨rfl, rfl, rfl⟩ rfl h1 rfl ?_
  refine x_l 259 rfl rfl rfl ?_
  refine z_gf 262 (.ref 160) rfl ⟨rfl, rfl, rfl⟩ rfl rfl ?_
  refine x_l 263 rfl rfl rfl ?_
  refine x_l 265 rfl rfl rfl ?_
  refine x_b 268 rfl rfl rfl (fun c => ?_) (fun c => ?_)
  · have h := h.1 c
    refine x_l 282 rfl rfl rfl ?_
    refine z_gf 285 (.ref 160) rfl ⟨rfl, rfl, rfl⟩ rfl rfl ?_
    refine x_l 287 rfl rfl rfl ?_
    have h1 := h.1
    have h := h.2
    refine z_il 288 32 rfl ⟨rfl, rfl, rfl⟩ rfl h1 rfl ?_
    exact h
  · have h := h.2 c
    refine x_l 269 rfl rfl rfl ?_
    refine z_gf 272 (.ref 160) rfl ⟨rfl, rfl, rfl⟩ rfl rfl ?_
    refine x_l 274 rfl rfl rfl ?_
    have h1 := h.1
    have h := h.2
    refine z_il 275 32 rfl ⟨rfl, rfl, rfl⟩ rfl h1 rfl ?_
    refine x_l 277 rfl rfl rfl ?_
    refine x_s 278 rfl rfl rfl ?_
    refine x_g rfl ?_
    exact h

theorem bk_Mo_pile_288 {k : Nat} {pa pb : Nat} {ga : Nat → Nat} {I : pm_II} {J : pm_JJ} {Q : Option Value → pm_H → Prop} {x1 : Int32} {x2 : Int32} {x3 : Int32} {x4 : Int32} {x5 : Int32} {x6 : Int32} {s1 : Int32} {s2 : Int32} (h : vp_in s1 32 ∧ ((x4 = 0 → vp_in x5 32 ∧ Px (k + 1) 176 m_Mo_pile 319 [.ref 120, .int x1, .int x2, .int x3, .int x4, .int x5, .int x6] [.int ((I 161 ((x5 : Int32).toNatClampNeg)) - x6), .int x3, .ref 161] (hp (pm_up I 160 ((s1 : Int32).toNatClampNeg) s2) J (pm_RT pa pb ga)) Q) ∧ (¬ (x4 = 0) → vp_in x5 32 ∧ Px (k + 1) 176 m_Mo_pile 319 [.ref 120, .int x1, .int x2, .int x3, .int x4, .int x5, .int x6] [.int (I 161 ((x5 : Int32).toNatClampNeg)), .int x3, .ref 161] (hp (pm_up I 160 ((s1 : Int32).toNatClampNeg) s2) J (pm_RT pa pb ga)) Q))) : Px (k + 1) 176 m_Mo_pile 288 [.ref 120, .int x1, .int x2, .int x3, .int x4, .int x5, .int x6] [.int s2, .int s1, .ref 160] (hp I J (pm_RT pa pb ga)) Q := by
  have h1 := h.1
  have h := h.2
  refine z_is 289 32 rfl ⟨rfl, rfl, rfl⟩ rfl h1 rfl ?_
  refine x_l 290 rfl rfl rfl ?_
  refine z_gf 293 (.ref 161) rfl ⟨rfl, rfl, rfl⟩ rfl rfl ?_
  refine x_l 294 rfl rfl rfl ?_
  refine x_l 296 rfl rfl rfl ?_
  refine x_b 299 rfl rfl rfl (fun c => ?_) (fun c => ?_)
  · have h := h.1 c
    refine x_l 310 rfl rfl rfl ?_
    refine z_gf 313 (.ref 161) rfl ⟨rfl, rfl, rfl⟩ rfl rfl ?_
    refine x_l 315 rfl rfl rfl ?_
    have h1 := h.1
    have h := h.2
    refine z_il 316 32 rfl ⟨rfl, rfl, rfl⟩ rfl h1 rfl ?_
    refine x_l 318 rfl rfl rfl ?_
    refine x_s 319 rfl rfl rfl ?_
    exact h
  · have h := h.2 c
    refine x_l 300 rfl rfl rfl ?_
    refine z_gf 303 (.ref 161) rfl ⟨rfl, rfl, rfl⟩ rfl rfl ?_
    refine x_l 305 rfl rfl rfl ?_
    have h1 := h.1
    have h := h.2
    refine z_il 306 32 rfl ⟨rfl, rfl, rfl⟩ rfl h1 rfl ?_
    refine x_g rfl ?_
    exact h

theorem bk_Mo_pile_319 {k : Nat} {pa pb : Nat} {ga : Nat → Nat} {I : pm_II} {J : pm_JJ} {Q : Option Value → pm_H → Prop} {x1 : Int32} {x2 : Int32} {x3 : Int32} {x4 : Int32} {x5 : Int32} {x6 : Int32} {s1 : Int32} {s2 : Int32} (h : vp_in s1 32 ∧ ((x4 = 0 → vp_in x5 32 ∧ Px (k + 1) 176 m_Mo_pile 343 [.ref 120, .int x1, .int x2, .int x3, .int x4, .int x5, .int x6] [.int (I 160 ((x5 : Int32).toNatClampNeg)), .int x5, .ref 160] (hp (pm_up I 161 ((s1 : Int32).toNatClampNeg) s2) J (pm_RT pa pb ga)) Q) ∧ (¬ (x4 = 0) → Px (k + 1) 176 m_Mo_pile 343 [.ref 120, .int x1, .int x2, .int x3, .int x4, .int x5, .int x6] [.int x6, .int x5, .ref 160] (hp (pm_up I 161 ((s1 : Int32).toNatClampNeg) s2) J (pm_RT pa pb ga)) Q))) : Px (k + 1) 176 m_Mo_pile 319 [.ref 120, .int x1, .int x2, .int x3, .int x4, .int x5, .int x6] [.int s2, .int s1, .ref 161] (hp I J (pm_RT pa pb ga)) Q := by
  have h1 := h.1
  have h := h.2
  refine z_is 320 32 rfl ⟨rfl, rfl, rfl⟩ rfl h1 rfl ?_
  refine x_l 321 rfl rfl rfl ?_
  refine z_gf 324 (.ref 160) rfl ⟨rfl, rfl, rfl⟩ rfl rfl ?_
  refine x_l 326 rfl rfl rfl ?_
  refine x_l 328 rfl rfl rfl ?_
  refine x_b 331 rfl rfl rfl (fun c => ?_) (fun c => ?_)
  · have h := h.1 c
    refine x_l 337 rfl rfl rfl ?_
    refine z_gf 340 (.ref 160) rfl ⟨rfl, rfl, rfl⟩ rfl rfl ?_
    refine x_l 342 rfl rfl rfl ?_
    have h1 := h.1
    have h := h.2
    refine z_il 343 32 rfl ⟨rfl, rfl, rfl⟩ rfl h1 rfl ?_
    exact h
  · have h := h.2 c
    refine x_l 333 rfl rfl rfl ?_
    refine x_g rfl ?_
    exact h

theorem bk_Mo_pile_343 {k : Nat} {pa pb : Nat} {ga : Nat → Nat} {I : pm_II} {J : pm_JJ} {Q : Option Value → pm_H → Prop} {x1 : Int32} {x2 : Int32} {x3 : Int32} {x4 : Int32} {x5 : Int32} {x6 : Int32} {s1 : Int32} {s2 : Int32} (h : vp_in s1 32 ∧ ((x4 = 0 → vp_in x5 32 ∧ Px (k + 1) 176 m_Mo_pile 58 [.ref 120, .int x1, .int x2, .int (x3 + Int32.ofInt 1), .int x4, .int x5, .int x6] [] (hp (pm_up (pm_up I 160 ((s1 : Int32).toNatClampNeg) s2) 161 ((x5 : Int32).toNatClampNeg) x6) J (pm_RT pa pb ga)) Q) ∧ (¬ (x4 = 0) → vp_in x5 32 ∧ vp_in x5 32 ∧ Px (k + 1) 176 m_Mo_pile 58 [.ref 120, .int x1, .int x2, .int (x3 + Int32.ofInt 1), .int x4, .int x5, .int x6] [] (hp (pm_up (pm_up I 160 ((s1 : Int32).toNatClampNeg) s2) 161 ((x5 : Int32).toNatClampNeg) (I 161 ((x5 : Int32).toNatClampNeg))) J (pm_RT pa pb ga)) Q))) : Px (k + 1) 176 m_Mo_pile 343 [.ref 120, .int x1, .int x2, .int x3, .int x4, .int x5, .int x6] [.int s2, .int s1, .ref 160] (hp I J (pm_RT pa pb ga)) Q := by
  have h1 := h.1
  have h := h.2
  refine z_is 344 32 rfl ⟨rfl, rfl, rfl⟩ rfl h1 rfl ?_
  refine x_l 345 rfl rfl rfl ?_
  refine z_gf 348 (.ref 161) rfl ⟨rfl, rfl, rfl⟩ rfl rfl ?_
  refine x_l 350 rfl rfl rfl ?_
  refine x_l 352 rfl rfl rfl ?_
  refine x_b 355 rfl rfl rfl (fun c => ?_) (fun c => ?_)
  · have h := h.1 c
    refine x_l 367 rfl rfl rfl ?_
    have h1 := h.1
    have h := h.2
    refine z_is 368 32 rfl ⟨rfl, rfl, rfl⟩ rfl h1 rfl ?_
    refine x_t 371 rfl rfl rfl ?_
    refine x_g rfl ?_
    exact h
  · have h := h.2 c
    refine x_l 356 rfl rfl rfl ?_
    refine z_gf 359 (.ref 161) rfl ⟨rfl, rfl, rfl⟩ rfl rfl ?_
    refine x_l 361 rfl rfl rfl ?_
    have h1 := h.1
    have h := h.2
    refine z_il 362 32 rfl ⟨rfl, rfl, rfl⟩ rfl h1 rfl ?_
    refine x_g rfl ?_
    have h1 := h.1
    have h := h.2
    refine z_is 368 32 rfl ⟨rfl, rfl, rfl⟩ rfl h1 rfl ?_
    refine x_t 371 rfl rfl rfl ?_
    refine x_g rfl ?_
    exact h

theorem bk_Mo_pile_374 {k : Nat} {pa pb : Nat} {ga : Nat → Nat} {I : pm_II} {J : pm_JJ} {Q : Option Value → pm_H → Prop} {x1 : Int32} {x2 : Int32} {x3 : Int32} (h : Px k 176 m_Mo_bad 0 [.ref 120] [] (hp I J (pm_RT pa pb ga)) (fun r h' => h'.1 = 176 ∧ Px (k + 1) 176 m_Mo_pile 378 [.ref 120, .int x1, .int x2, .int x3, .null, .null, .null] (r.toList ++ []) h' Q)) : Px (k + 1) 176 m_Mo_pile 374 [.ref 120, .int x1, .int x2, .int x3, .null, .null, .null] [] (hp I J (pm_RT pa pb ga)) Q := by
  refine x_l 375 rfl rfl rfl ?_
  exact z_cv (As := []) (rest := []) (b := 120) rfl at_Mo_bad rfl rfl (Nat.le_of_ble_eq_true rfl) (Nat.le_of_ble_eq_true rfl) ⟨rfl, rfl, rfl⟩ (by decide) rfl h

theorem bk_Mo_pile_378 {k : Nat} {pa pb : Nat} {ga : Nat → Nat} {I : pm_II} {J : pm_JJ} {Q : Option Value → pm_H → Prop} {x1 : Int32} {x2 : Int32} {x3 : Int32} {s0 : Int32} (h : ((s0 = 0 → Px (k + 1) 176 m_Mo_pile 398 [.ref 120, .int x1, .int x2, .int x3, .int 0, .null, .null] [] (hp (pm_up I 120 65 x3) J (pm_RT pa pb ga)) Q) ∧ (¬ (s0 = 0) → Q (some (.int (((-1000) : Int32) - (I 120 5)))) (hp I J (pm_RT pa pb ga))))) : Px (k + 1) 176 m_Mo_pile 378 [.ref 120, .int x1, .int x2, .int x3, .null, .null, .null] [.int s0] (hp I J (pm_RT pa pb ga)) Q := by
  refine x_b 381 rfl rfl rfl (fun c => ?_) (fun c => ?_)
  · have h := h.1 c
    refine x_l 391 rfl rfl rfl ?_
    refine x_l 392 rfl rfl rfl ?_
    refine z_pi 395 rfl (Or.inl rfl) rfl (fun z => by cases z) ⟨rfl, rfl, rfl⟩ rfl ?_
    refine z_k 396 0 rfl (by decide) rfl ?_
    refine x_t 398 rfl rfl rfl ?_
    exact h
  · have h := h.2 c
    refine z_k 384 (-1000) rfl (by decide) rfl ?_
    refine x_l 385 rfl rfl rfl ?_
    refine z_gf 388 (.int (I 120 5)) rfl ⟨rfl, rfl, rfl⟩ rfl rfl ?_
    refine x_s 389 rfl rfl rfl ?_
    exact x_ri rfl (Or.inl rfl) h

theorem bk_Mo_pile_398 {k : Nat} {pa pb : Nat} {ga : Nat → Nat} {I : pm_II} {J : pm_JJ} {Q : Option Value → pm_H → Prop} {x1 : Int32} {x2 : Int32} {x3 : Int32} {x4 : Int32} (h : ((x3 ≤ x4 → Q (some (.int (I 120 65))) (hp I J (pm_RT pa pb ga))) ∧ (¬ (x3 ≤ x4) → vp_in x4 32 ∧ vp_in x4 32 ∧ vp_in x4 32 ∧ vp_in x4 32 ∧ vp_in x4 32 ∧ vp_in x4 32 ∧ vp_in x4 32 ∧ vp_in x4 32 ∧ Px (k + 1) 176 m_Mo_pile 398 [.ref 120, .int x1, .int x2, .int x3, .int (x4 + Int32.ofInt 1), .null, .null] [] (hp (pm_up (pm_up (pm_up (pm_up I 154 ((x4 : Int32).toNatClampNeg) (I 158 ((x4 : Int32).toNatClampNeg))) 155 ((x4 : Int32).toNatClampNeg) (I 159 ((x4 : Int32).toNatClampNeg))) 156 ((x4 : Int32).toNatClampNeg) (I 160 ((x4 : Int32).toNatClampNeg))) 157 ((x4 : Int32).toNatClampNeg) (I 161 ((x4 : Int32).toNatClampNeg))) J (pm_RT pa pb ga)) Q))) : Px (k + 1) 176 m_Mo_pile 398 [.ref 120, .int x1, .int x2, .int x3, .int x4, .null, .null] [] (hp I J (pm_RT pa pb ga)) Q := by
  refine x_l 400 rfl rfl rfl ?_
  refine x_l 401 rfl rfl rfl ?_
  refine x_b 404 rfl rfl rfl (fun c => ?_) (fun c => ?_)
  · have h := h.1 c
    refine x_l 467 rfl rfl rfl ?_
    refine z_gf 470 (.int (I 120 65)) rfl ⟨rfl, rfl, rfl⟩ rfl rfl ?_
    exact x_ri rfl (Or.inl rfl) h
  · have h := h.2 c
    refine x_l 405 rfl rfl rfl ?_
    refine z_gf 408 (.ref 154) rfl ⟨rfl, rfl, rfl⟩ rfl rfl ?_
    refine x_l 410 rfl rfl rfl ?_
    refine x_l 411 rfl rfl rfl ?_
    refine z_gf 414 (.ref 158) rfl ⟨rfl, rfl, rfl⟩ rfl rfl ?_
    refine x_l 416 rfl rfl rfl ?_
    have h1 := h.1
    have h := h.2
    refine z_il 417 32 rfl ⟨rfl, rfl, rfl⟩ rfl h1 rfl ?_
    have h1 := h.1
    have h := h.2
    refine z_is 418 32 rfl ⟨rfl, rfl, rfl⟩ rfl h1 rfl ?_
    refine x_l 419 rfl rfl rfl ?_
    refine z_gf 422 (.ref 155) rfl ⟨rfl, rfl, rfl⟩ rfl rfl ?_
    refine x_l 424 rfl rfl rfl ?_
    refine x_l 425 rfl rfl rfl ?_
    refine z_gf 428 (.ref 159) rfl ⟨rfl, rfl, rfl⟩ rfl rfl ?_
    refine x_l 430 rfl rfl rfl ?_
    have h1 := h.1
    have h := h.2
    refine z_il 431 32 rfl ⟨rfl, rfl, rfl⟩ rfl h1 rfl ?_
    have h1 := h.1
    have h := h.2
    refine z_is 432 32 rfl ⟨rfl, rfl, rfl⟩ rfl h1 rfl ?_
    refine x_l 433 rfl rfl rfl ?_
    refine z_gf 436 (.ref 156) rfl ⟨rfl, rfl, rfl⟩ rfl rfl ?_
    refine x_l 438 rfl rfl rfl ?_
    refine x_l 439 rfl rfl rfl ?_
    refine z_gf 442 (.ref 160) rfl ⟨rfl, rfl, rfl⟩ rfl rfl ?_
    refine x_l 444 rfl rfl rfl ?_
    have h1 := h.1
    have h := h.2
    refine z_il 445 32 rfl ⟨rfl, rfl, rfl⟩ rfl h1 rfl ?_
    have h1 := h.1
    have h := h.2
    refine z_is 446 32 rfl ⟨rfl, rfl, rfl⟩ rfl h1 rfl ?_
    refine x_l 447 rfl rfl rfl ?_
    refine z_gf 450 (.ref 157) rfl ⟨rfl, rfl, rfl⟩ rfl rfl ?_
    refine x_l 452 rfl rfl rfl ?_
    refine x_l 453 rfl rfl rfl ?_
    refine z_gf 456 (.ref 161) rfl ⟨rfl, rfl, rfl⟩ rfl rfl ?_
    refine x_l 458 rfl rfl rfl ?_
    have h1 := h.1
    have h := h.2
    refine z_il 459 32 rfl ⟨rfl, rfl, rfl⟩ rfl h1 rfl ?_
    have h1 := h.1
    have h := h.2
    refine z_is 460 32 rfl ⟨rfl, rfl, rfl⟩ rfl h1 rfl ?_
    refine x_t 463 rfl rfl rfl ?_
    refine x_g rfl ?_
    exact h

theorem bk_Mo_piece_0 {k : Nat} {pa pb : Nat} {ga : Nat → Nat} {I : pm_II} {J : pm_JJ} {Q : Option Value → pm_H → Prop} {x1 : Int32} {x2 : Int32} (h : Px k 176 m_Mo_is 0 [.int x1, .int 0, .int ((I 120 65) - (1 : Int32))] [] (hp I J (pm_RT pa pb ga)) (fun r h' => h'.1 = 176 ∧ Px (k + 1) 176 m_Mo_piece 11 [.ref 120, .int x1, .int x2] (r.toList ++ []) h' Q)) : Px (k + 1) 176 m_Mo_piece 0 [.ref 120, .int x1, .int x2] [] (hp I J (pm_RT pa pb ga)) Q := by
  refine x_l 1 rfl rfl rfl ?_
  refine z_k 2 0 rfl (by decide) rfl ?_
  refine x_l 3 rfl rfl rfl ?_
  refine z_gf 6 (.int (I 120 65)) rfl ⟨rfl, rfl, rfl⟩ rfl rfl ?_
  refine z_k 7 1 rfl (by decide) rfl ?_
  refine x_s 8 rfl rfl rfl ?_
  exact z_cs (As := [.int x1, .int 0, .int ((I 120 65) - (1 : Int32))]) (rest := []) rfl at_Mo_is rfl rfl (Nat.le_of_ble_eq_true rfl) (Nat.le_of_ble_eq_true rfl) rfl h

theorem bk_Mo_piece_11 {k : Nat} {pa pb : Nat} {ga : Nat → Nat} {I : pm_II} {J : pm_JJ} {Q : Option Value → pm_H → Prop} {x1 : Int32} {x2 : Int32} {s0 : Int32} (h : ((¬ s0 = 0 → ((x2 = nI 0 → vp_in x1 32 ∧ Q (some (.int (I 154 ((x1 : Int32).toNatClampNeg)))) (hp I J (pm_RT pa pb ga))) ∧ (x2 = nI 1 → vp_in x1 32 ∧ Q (some (.int (I 155 ((x1 : Int32).toNatClampNeg)))) (hp I J (pm_RT pa pb ga))) ∧ (x2 = nI 2 → vp_in x1 32 ∧ Q (some (.int (I 156 ((x1 : Int32).toNatClampNeg)))) (hp I J (pm_RT pa pb ga))) ∧ (x2 = nI 3 → vp_in x1 32 ∧ Q (some (.int (I 157 ((x1 : Int32).toNatClampNeg)))) (hp I J (pm_RT pa pb ga))) ∧ ((x2 < 0 ∨ nI 3 < x2) → Q (some (.int (-1))) (hp I J (pm_RT pa pb ga))))) ∧ (¬ (¬ s0 = 0) → Q (some (.int (-1))) (hp I J (pm_RT pa pb ga))))) : Px (k + 1) 176 m_Mo_piece 11 [.ref 120, .int x1, .int x2] [.int s0] (hp I J (pm_RT pa pb ga)) Q := by
  refine x_b 14 rfl rfl rfl (fun c => ?_) (fun c => ?_)
  · have h := h.1 c
    refine x_l 17 rfl rfl rfl ?_
    refine z_sw 3 (dt := 76) rfl rfl (by decide) (fun i hi e => ?_) (fun c => ?_)
    · match i, hi with
      | 0, _ =>
        refine ⟨_, 48, rfl, rfl, ?_⟩
        have h := h.1 e
        refine x_l 49 rfl rfl rfl ?_
        refine z_gf 52 (.ref 154) rfl ⟨rfl, rfl, rfl⟩ rfl rfl ?_
        refine x_l 53 rfl rfl rfl ?_
        have h1 := h.1
        have h := h.2
        refine z_il 54 32 rfl ⟨rfl, rfl, rfl⟩ rfl h1 rfl ?_
        exact x_ri rfl (Or.inl rfl) h
      | 1, _ =>
        refine ⟨_, 55, rfl, rfl, ?_⟩
        have h := h.2.1 e
        refine x_l 56 rfl rfl rfl ?_
        refine z_gf 59 (.ref 155) rfl ⟨rfl, rfl, rfl⟩ rfl rfl ?_
        refine x_l 60 rfl rfl rfl ?_
        have h1 := h.1
        have h := h.2
        refine z_il 61 32 rfl ⟨rfl, rfl, rfl⟩ rfl h1 rfl ?_
        exact x_ri rfl (Or.inl rfl) h
      | 2, _ =>
        refine ⟨_, 62, rfl, rfl, ?_⟩
        have h := h.2.2.1 e
        refine x_l 63 rfl rfl rfl ?_
        refine z_gf 66 (.ref 156) rfl ⟨rfl, rfl, rfl⟩ rfl rfl ?_
        refine x_l 67 rfl rfl rfl ?_
        have h1 := h.1
        have h := h.2
        refine z_il 68 32 rfl ⟨rfl, rfl, rfl⟩ rfl h1 rfl ?_
        exact x_ri rfl (Or.inl rfl) h
      | 3, _ =>
        refine ⟨_, 69, rfl, rfl, ?_⟩
        have h := h.2.2.2.1 e
        refine x_l 70 rfl rfl rfl ?_
        refine z_gf 73 (.ref 157) rfl ⟨rfl, rfl, rfl⟩ rfl rfl ?_
        refine x_l 74 rfl rfl rfl ?_
        have h1 := h.1
        have h := h.2
        refine z_il 75 32 rfl ⟨rfl, rfl, rfl⟩ rfl h1 rfl ?_
        exact x_ri rfl (Or.inl rfl) h
      | n + 4, hi => exact absurd hi (by omega)
    · have h := h.2.2.2.2 c
      refine z_k 77 (-1) rfl (by decide) rfl ?_
      exact x_ri rfl (Or.inl rfl) h
  · have h := h.2 c
    refine z_k 15 (-1) rfl (by decide) rfl ?_
    exact x_ri rfl (Or.inl rfl) h

theorem bk_Mo_on_0 {k : Nat} {pa pb : Nat} {ga : Nat → Nat} {I : pm_II} {J : pm_JJ} {Q : Option Value → pm_H → Prop} {x1 : Int32} {x2 : Int32} (h : Px k 176 m_Mo_on 2 [.ref 120, .int x1, .int x2, .int 0] [] (hp I J (pm_RT pa pb ga)) Q) : Px k 176 m_Mo_on 0 [.ref 120, .int x1, .int x2, .null] [] (hp I J (pm_RT pa pb ga)) Q := by
  refine z_k 1 0 rfl (by decide) rfl ?_
  refine x_t 2 rfl rfl rfl ?_
  exact h

theorem bk_Mo_on_2 {k : Nat} {pa pb : Nat} {ga : Nat → Nat} {I : pm_II} {J : pm_JJ} {Q : Option Value → pm_H → Prop} {x1 : Int32} {x2 : Int32} {x3 : Int32} (h : (((I 120 65) ≤ x3 → Q (some (.int (-1))) (hp I J (pm_RT pa pb ga))) ∧ (¬ ((I 120 65) ≤ x3) → vp_in x3 32 ∧ ((x1 < (I 154 ((x3 : Int32).toNatClampNeg)) → Px k 176 m_Mo_on 2 [.ref 120, .int x1, .int x2, .int (x3 + Int32.ofInt 1)] [] (hp I J (pm_RT pa pb ga)) Q) ∧ (¬ (x1 < (I 154 ((x3 : Int32).toNatClampNeg))) → vp_in x3 32 ∧ vp_in x3 32 ∧ ((((I 154 ((x3 : Int32).toNatClampNeg)) + (I 156 ((x3 : Int32).toNatClampNeg))) ≤ x1 → Px k 176 m_Mo_on 2 [.ref 120, .int x1, .int x2, .int (x3 + Int32.ofInt 1)] [] (hp I J (pm_RT pa pb ga)) Q) ∧ (¬ (((I 154 ((x3 : Int32).toNatClampNeg)) + (I 156 ((x3 : Int32).toNatClampNeg))) ≤ x1) → vp_in x3 32 ∧ ((x2 < (I 155 ((x3 : Int32).toNatClampNeg)) → Px k 176 m_Mo_on 2 [.ref 120, .int x1, .int x2, .int (x3 + Int32.ofInt 1)] [] (hp I J (pm_RT pa pb ga)) Q) ∧ (¬ (x2 < (I 155 ((x3 : Int32).toNatClampNeg))) → vp_in x3 32 ∧ vp_in x3 32 ∧ ((((I 155 ((x3 : Int32).toNatClampNeg)) + (I 157 ((x3 : Int32).toNatClampNeg))) ≤ x2 → Px k 176 m_Mo_on 2 [.ref 120, .int x1, .int x2, .int (x3 + Int32.ofInt 1)] [] (hp I J (pm_RT pa pb ga)) Q) ∧ (¬ (((I 155 ((x3 : Int32).toNatClampNeg)) + (I 157 ((x3 : Int32).toNatClampNeg))) ≤ x2) → Q (some (.int x3)) (hp I J (pm_RT pa pb ga))))))))))))) : Px k 176 m_Mo_on 2 [.ref 120, .int x1, .int x2, .int x3] [] (hp I J (pm_RT pa pb ga)) Q := by
  refine x_l 3 rfl rfl rfl ?_
  refine x_l 4 rfl rfl rfl ?_
  refine z_gf 7 (.int (I 120 65)) rfl ⟨rfl, rfl, rfl⟩ rfl rfl ?_
  refine x_b 10 rfl rfl rfl (fun c => ?_) (fun c => ?_)
  · have h := h.1 c
    refine z_k 73 (-1) rfl (by decide) rfl ?_
    exact x_ri rfl (Or.inl rfl) h
  · have h := h.2 c
    refine x_l 11 rfl rfl rfl ?_
    refine x_l 12 rfl rfl rfl ?_
    refine z_gf 15 (.ref 154) rfl ⟨rfl, rfl, rfl⟩ rfl rfl ?_
    refine x_l 16 rfl rfl rfl ?_
    have h1 := h.1
    have h := h.2
    refine z_il 17 32 rfl ⟨rfl, rfl, rfl⟩ rfl h1 rfl ?_
    refine x_b 20 rfl rfl rfl (fun c => ?_) (fun c => ?_)
    · have h := h.1 c
      refine x_t 69 rfl rfl rfl ?_
      refine x_g rfl ?_
      exact h
    · have h := h.2 c
      refine x_l 21 rfl rfl rfl ?_
      refine x_l 22 rfl rfl rfl ?_
      refine z_gf 25 (.ref 154) rfl ⟨rfl, rfl, rfl⟩ rfl rfl ?_
      refine x_l 26 rfl rfl rfl ?_
      have h1 := h.1
      have h := h.2
      refine z_il 27 32 rfl ⟨rfl, rfl, rfl⟩ rfl h1 rfl ?_
      refine x_l 28 rfl rfl rfl ?_
      refine z_gf 31 (.ref 156) rfl ⟨rfl, rfl, rfl⟩ rfl rfl ?_
      refine x_l 32 rfl rfl rfl ?_
      have h1 := h.1
      have h := h.2
      refine z_il 33 32 rfl ⟨rfl, rfl, rfl⟩ rfl h1 rfl ?_
      refine x_s 34 rfl rfl rfl ?_
      refine x_b 37 rfl rfl rfl (fun c => ?_) (fun c => ?_)
      · have h := h.1 c
        refine x_t 69 rfl rfl rfl ?_
        refine x_g rfl ?_
        exact h
      · have h := h.2 c
        refine x_l 38 rfl rfl rfl ?_
        refine x_l 39 rfl rfl rfl ?_
        refine z_gf 42 (.ref 155) rfl ⟨rfl, rfl, rfl⟩ rfl rfl ?_
        refine x_l 43 rfl rfl rfl ?_
        have h1 := h.1
        have h := h.2
        refine z_il 44 32 rfl ⟨rfl, rfl, rfl⟩ rfl h1 rfl ?_
        refine x_b 47 rfl rfl rfl (fun c => ?_) (fun c => ?_)
        · have h := h.1 c
          refine x_t 69 rfl rfl rfl ?_
          refine x_g rfl ?_
          exact h
        · have h := h.2 c
          refine x_l 48 rfl rfl rfl ?_
          refine x_l 49 rfl rfl rfl ?_
          refine z_gf 52 (.ref 155) rfl ⟨rfl, rfl, rfl⟩ rfl rfl ?_
          refine x_l 53 rfl rfl rfl ?_
          have h1 := h.1
          have h := h.2
          refine z_il 54 32 rfl ⟨rfl, rfl, rfl⟩ rfl h1 rfl ?_
          refine x_l 55 rfl rfl rfl ?_
          refine z_gf 58 (.ref 157) rfl ⟨rfl, rfl, rfl⟩ rfl rfl ?_
          refine x_l 59 rfl rfl rfl ?_
          have h1 := h.1
          have h := h.2
          refine z_il 60 32 rfl ⟨rfl, rfl, rfl⟩ rfl h1 rfl ?_
          refine x_s 61 rfl rfl rfl ?_
          refine x_b 64 rfl rfl rfl (fun c => ?_) (fun c => ?_)
          · have h := h.1 c
            refine x_t 69 rfl rfl rfl ?_
            refine x_g rfl ?_
            exact h
          · have h := h.2 c
            refine x_l 65 rfl rfl rfl ?_
            exact x_ri rfl (Or.inl rfl) h

theorem bk_Mo_gather_0 {k : Nat} {pa pb : Nat} {ga : Nat → Nat} {I : pm_II} {J : pm_JJ} {Q : Option Value → pm_H → Prop} (h : Px k 176 m_Mo_take 0 [.ref 120, .null] [] (hp I J (pm_RT pa pb ga)) (fun r h' => h'.1 = 176 ∧ Px (k + 1) 176 m_Mo_gather 4 [.ref 120, .null, .null, .null] (r.toList ++ []) h' Q)) : Px (k + 1) 176 m_Mo_gather 0 [.ref 120, .null, .null, .null] [] (hp I J (pm_RT pa pb ga)) Q := by
  refine x_l 1 rfl rfl rfl ?_
  exact z_cv (As := []) (rest := []) (b := 120) rfl at_Mo_take rfl rfl (Nat.le_of_ble_eq_true rfl) (Nat.le_of_ble_eq_true rfl) ⟨rfl, rfl, rfl⟩ (by decide) rfl h

theorem bk_Mo_gather_4 {k : Nat} {pa pb : Nat} {ga : Nat → Nat} {I : pm_II} {J : pm_JJ} {Q : Option Value → pm_H → Prop} (h : Px (k + 1) 176 m_Mo_gather 8 [.ref 120, .int 0, .int 0, .null] [] (hp I J (pm_RT pa pb ga)) Q) : Px (k + 1) 176 m_Mo_gather 4 [.ref 120, .null, .null, .null] [] (hp I J (pm_RT pa pb ga)) Q := by
  refine z_k 5 0 rfl (by decide) rfl ?_
  refine x_t 6 rfl rfl rfl ?_
  refine z_k 7 0 rfl (by decide) rfl ?_
  refine x_t 8 rfl rfl rfl ?_
  exact h

theorem bk_Mo_gather_8 {k : Nat} {pa pb : Nat} {ga : Nat → Nat} {I : pm_II} {J : pm_JJ} {Q : Option Value → pm_H → Prop} {x1 : Int32} {x2 : Int32} (h : Px k 176 m_Mo_bad 0 [.ref 120] [] (hp I J (pm_RT pa pb ga)) (fun r h' => h'.1 = 176 ∧ Px (k + 1) 176 m_Mo_gather 12 [.ref 120, .int x1, .int x2, .null] (r.toList ++ []) h' Q)) : Px (k + 1) 176 m_Mo_gather 8 [.ref 120, .int x1, .int x2, .null] [] (hp I J (pm_RT pa pb ga)) Q := by
  refine x_l 9 rfl rfl rfl ?_
  exact z_cv (As := []) (rest := []) (b := 120) rfl at_Mo_bad rfl rfl (Nat.le_of_ble_eq_true rfl) (Nat.le_of_ble_eq_true rfl) ⟨rfl, rfl, rfl⟩ (by decide) rfl h

theorem bk_Mo_gather_12 {k : Nat} {pa pb : Nat} {ga : Nat → Nat} {I : pm_II} {J : pm_JJ} {Q : Option Value → pm_H → Prop} {x1 : Int32} {x2 : Int32} {s0 : Int32} (h : ((¬ s0 = 0 → Px (k + 1) 176 m_Mo_gather 96 [.ref 120, .int x1, .int x2, .null] [] (hp I J (pm_RT pa pb ga)) Q) ∧ (¬ (¬ s0 = 0) → ((x1 = 0 → Px (k + 1) 176 m_Mo_gather 28 [.ref 120, .int x1, .int x2, .null] [] (hp I J (pm_RT pa pb ga)) Q) ∧ (¬ (x1 = 0) → Px k 176 m_Mo_here 0 [.ref 120] [] (hp I J (pm_RT pa pb ga)) (fun r h' => h'.1 = 176 ∧ Px (k + 1) 176 m_Mo_gather 23 [.ref 120, .int x1, .int x2, .null] (r.toList ++ []) h' Q)))))) : Px (k + 1) 176 m_Mo_gather 12 [.ref 120, .int x1, .int x2, .null] [.int s0] (hp I J (pm_RT pa pb ga)) Q := by
  refine x_b 15 rfl rfl rfl (fun c => ?_) (fun c => ?_)
  · have h := h.1 c
    exact h
  · have h := h.2 c
    refine x_l 16 rfl rfl rfl ?_
    refine x_b 19 rfl rfl rfl (fun c => ?_) (fun c => ?_)
    · have h := h.1 c
      exact h
    · have h := h.2 c
      refine x_l 20 rfl rfl rfl ?_
      exact z_cv (As := []) (rest := []) (b := 120) rfl at_Mo_here rfl rfl (Nat.le_of_ble_eq_true rfl) (Nat.le_of_ble_eq_true rfl) ⟨rfl, rfl, rfl⟩ (by decide) rfl h

theorem bk_Mo_gather_23 {k : Nat} {pa pb : Nat} {ga : Nat → Nat} {I : pm_II} {J : pm_JJ} {Q : Option Value → pm_H → Prop} {x1 : Int32} {x2 : Int32} {s0 : Int32} (h : ((¬ s0 = 32 → Px (k + 1) 176 m_Mo_gather 96 [.ref 120, .int x1, .int x2, .null] [] (hp I J (pm_RT pa pb ga)) Q) ∧ (¬ (¬ s0 = 32) → Px (k + 1) 176 m_Mo_gather 28 [.ref 120, .int x1, .int x2, .null] [] (hp I J (pm_RT pa pb ga)) Q))) : Px (k + 1) 176 m_Mo_gather 23 [.ref 120, .int x1, .int x2, .null] [.int s0] (hp I J (pm_RT pa pb ga)) Q := by
  refine z_k 25 32 rfl (by decide) rfl ?_
  refine x_b 28 rfl rfl rfl (fun c => ?_) (fun c => ?_)
  · have h := h.1 c
    exact h
  · have h := h.2 c
    exact h

theorem bk_Mo_gather_28 {k : Nat} {pa pb : Nat} {ga : Nat → Nat} {I : pm_II} {J : pm_JJ} {Q : Option Value → pm_H → Prop} {x1 : Int32} {x2 : Int32} (h : ((¬ x1 = 20 → ((¬ x1 = 0 → Px (k + 1) 176 m_Mo_gather 59 [.ref 120, .int x1, .int x2, .null] [.int 1, .int (I 120 4), .ref 120] (hp I J (pm_RT pa pb ga)) Q) ∧ (¬ (¬ x1 = 0) → Px (k + 1) 176 m_Mo_gather 59 [.ref 120, .int x1, .int x2, .null] [.int 0, .int (I 120 4), .ref 120] (hp I J (pm_RT pa pb ga)) Q))) ∧ (¬ (¬ x1 = 20) → Px k 176 m_Mo_fail 0 [.ref 120, .int (I 120 4)] [] (hp I J (pm_RT pa pb ga)) (fun r h' => h'.1 = 176 ∧ Px (k + 1) 176 m_Mo_gather 42 [.ref 120, .int x1, .int x2, .null] (r.toList ++ []) h' Q)))) : Px (k + 1) 176 m_Mo_gather 28 [.ref 120, .int x1, .int x2, .null] [] (hp I J (pm_RT pa pb ga)) Q := by
  refine x_l 29 rfl rfl rfl ?_
  refine z_k 31 20 rfl (by decide) rfl ?_
  refine x_b 34 rfl rfl rfl (fun c => ?_) (fun c => ?_)
  · have h := h.1 c
    refine x_l 46 rfl rfl rfl ?_
    refine x_s 47 rfl rfl rfl ?_
    refine z_gf 50 (.int (I 120 4)) rfl ⟨rfl, rfl, rfl⟩ rfl rfl ?_
    refine x_l 51 rfl rfl rfl ?_
    refine x_b 54 rfl rfl rfl (fun c => ?_) (fun c => ?_)
    · have h := h.1 c
      refine z_k 59 1 rfl (by decide) rfl ?_
      exact h
    · have h := h.2 c
      refine z_k 55 0 rfl (by decide) rfl ?_
      refine x_g rfl ?_
      exact h
  · have h := h.2 c
    refine x_l 35 rfl rfl rfl ?_
    refine x_l 36 rfl rfl rfl ?_
    refine z_gf 39 (.int (I 120 4)) rfl ⟨rfl, rfl, rfl⟩ rfl rfl ?_
    exact z_cv (As := [.int (I 120 4)]) (rest := []) (b := 120) rfl at_Mo_fail rfl rfl (Nat.le_of_ble_eq_true rfl) (Nat.le_of_ble_eq_true rfl) ⟨rfl, rfl, rfl⟩ (by decide) rfl h

theorem bk_Mo_gather_42 {k : Nat} {pa pb : Nat} {ga : Nat → Nat} {I : pm_II} {J : pm_JJ} {Q : Option Value → pm_H → Prop} {x1 : Int32} {x2 : Int32} (h : Px (k + 1) 176 m_Mo_gather 8 [.ref 120, .int x1, .int x2, .null] [] (hp I J (pm_RT pa pb ga)) Q) : Px (k + 1) 176 m_Mo_gather 42 [.ref 120, .int x1, .int x2, .null] [] (hp I J (pm_RT pa pb ga)) Q := by
  refine x_g rfl ?_
  exact h

theorem bk_Mo_gather_59 {k : Nat} {pa pb : Nat} {ga : Nat → Nat} {I : pm_II} {J : pm_JJ} {Q : Option Value → pm_H → Prop} {x1 : Int32} {x2 : Int32} {s1 : Int32} {s2 : Int32} (h : Px k 176 m_Mo_told 0 [.ref 120, .int 1, .int 8, .null, .null] [] (hp (pm_up I 120 4 (s1 + s2)) J (pm_RT pa pb ga)) (fun r h' => h'.1 = 176 ∧ Px (k + 1) 176 m_Mo_gather 70 [.ref 120, .int x1, .int x2, .null] (r.toList ++ []) h' Q)) : Px (k + 1) 176 m_Mo_gather 59 [.ref 120, .int x1, .int x2, .null] [.int s2, .int s1, .ref 120] (hp I J (pm_RT pa pb ga)) Q := by
  refine x_s 60 rfl rfl rfl ?_
  refine z_pi 63 rfl (Or.inl rfl) rfl (fun z => by cases z) ⟨rfl, rfl, rfl⟩ rfl ?_
  refine x_l 64 rfl rfl rfl ?_
  refine z_k 65 1 rfl (by decide) rfl ?_
  refine z_k 67 8 rfl (by decide) rfl ?_
  exact z_cv (As := [.int 1, .int 8]) (rest := []) (b := 120) rfl at_Mo_told rfl rfl (Nat.le_of_ble_eq_true rfl) (Nat.le_of_ble_eq_true rfl) ⟨rfl, rfl, rfl⟩ (by decide) rfl h

theorem bk_Mo_gather_70 {k : Nat} {pa pb : Nat} {ga : Nat → Nat} {I : pm_II} {J : pm_JJ} {Q : Option Value → pm_H → Prop} {x1 : Int32} {x2 : Int32} {s0 : Int32} (h : ((¬ x2 = 0 → Px (k + 1) 176 m_Mo_gather 8 [.ref 120, .int (x1 + Int32.ofInt 1), .int x2, .int s0] [] (hp I J (pm_RT pa pb ga)) Q) ∧ (¬ (¬ x2 = 0) → (((I 120 20) < (x1 + Int32.ofInt 1) → Px (k + 1) 176 m_Mo_gather 8 [.ref 120, .int (x1 + Int32.ofInt 1), .int (x1 + Int32.ofInt 1), .int s0] [] (hp I J (pm_RT pa pb ga)) Q) ∧ (¬ ((I 120 20) < (x1 + Int32.ofInt 1)) → ((s0 = (x1 + Int32.ofInt 1) → Px (k + 1) 176 m_Mo_gather 8 [.ref 120, .int (x1 + Int32.ofInt 1), .int x2, .int s0] [] (hp I J (pm_RT pa pb ga)) Q) ∧ (¬ (s0 = (x1 + Int32.ofInt 1)) → Px (k + 1) 176 m_Mo_gather 8 [.ref 120, .int (x1 + Int32.ofInt 1), .int (x1 + Int32.ofInt 1), .int s0] [] (hp I J (pm_RT pa pb ga)) Q))))))) : Px (k + 1) 176 m_Mo_gather 70 [.ref 120, .int x1, .int x2, .null] [.int s0] (hp I J (pm_RT pa pb ga)) Q := by
  refine x_t 71 rfl rfl rfl ?_
  refine x_t 74 rfl rfl rfl ?_
  refine x_l 75 rfl rfl rfl ?_
  refine x_b 78 rfl rfl rfl (fun c => ?_) (fun c => ?_)
  · have h := h.1 c
    refine x_g rfl ?_
    exact h
  · have h := h.2 c
    refine x_l 79 rfl rfl rfl ?_
    refine x_l 80 rfl rfl rfl ?_
    refine z_gf 83 (.int (I 120 20)) rfl ⟨rfl, rfl, rfl⟩ rfl rfl ?_
    refine x_b 86 rfl rfl rfl (fun c => ?_) (fun c => ?_)
    · have h := h.1 c
      refine x_l 92 rfl rfl rfl ?_
      refine x_t 93 rfl rfl rfl ?_
      refine x_g rfl ?_
      exact h
    · have h := h.2 c
      refine x_l 87 rfl rfl rfl ?_
      refine x_l 88 rfl rfl rfl ?_
      refine x_b 91 rfl rfl rfl (fun c => ?_) (fun c => ?_)
      · have h := h.1 c
        refine x_g rfl ?_
        exact h
      · have h := h.2 c
        refine x_l 92 rfl rfl rfl ?_
        refine x_t 93 rfl rfl rfl ?_
        refine x_g rfl ?_
        exact h

theorem bk_Mo_gather_96 {k : Nat} {pa pb : Nat} {ga : Nat → Nat} {I : pm_II} {J : pm_JJ} {Q : Option Value → pm_H → Prop} {x1 : Int32} {x2 : Int32} (h : Px k 176 m_Mo_need 0 [.ref 120, .int 10] [] (hp I J (pm_RT pa pb ga)) (fun r h' => h'.1 = 176 ∧ Px (k + 1) 176 m_Mo_gather 102 [.ref 120, .int x1, .int x2, .null] (r.toList ++ []) h' Q)) : Px (k + 1) 176 m_Mo_gather 96 [.ref 120, .int x1, .int x2, .null] [] (hp I J (pm_RT pa pb ga)) Q := by
  refine x_l 97 rfl rfl rfl ?_
  refine z_k 99 10 rfl (by decide) rfl ?_
  exact z_cv (As := [.int 10]) (rest := []) (b := 120) rfl at_Mo_need rfl rfl (Nat.le_of_ble_eq_true rfl) (Nat.le_of_ble_eq_true rfl) ⟨rfl, rfl, rfl⟩ (by decide) rfl h

theorem bk_Mo_gather_102 {k : Nat} {pa pb : Nat} {ga : Nat → Nat} {I : pm_II} {J : pm_JJ} {Q : Option Value → pm_H → Prop} {x1 : Int32} {x2 : Int32} (h : Px k 176 m_Mo_bad 0 [.ref 120] [] (hp I J (pm_RT pa pb ga)) (fun r h' => h'.1 = 176 ∧ Px (k + 1) 176 m_Mo_gather 106 [.ref 120, .int x1, .int x2, .null] (r.toList ++ []) h' Q)) : Px (k + 1) 176 m_Mo_gather 102 [.ref 120, .int x1, .int x2, .null] [] (hp I J (pm_RT pa pb ga)) Q := by
  refine x_l 103 rfl rfl rfl ?_
  exact z_cv (As := []) (rest := []) (b := 120) rfl at_Mo_bad rfl rfl (Nat.le_of_ble_eq_true rfl) (Nat.le_of_ble_eq_true rfl) ⟨rfl, rfl, rfl⟩ (by decide) rfl h

theorem bk_Mo_gather_106 {k : Nat} {pa pb : Nat} {ga : Nat → Nat} {I : pm_II} {J : pm_JJ} {Q : Option Value → pm_H → Prop} {x1 : Int32} {x2 : Int32} {s0 : Int32} (h : ((¬ s0 = 0 → Px (k + 1) 176 m_Mo_gather 128 [.ref 120, .int x1, .int x2, .null] [] (hp I J (pm_RT pa pb ga)) Q) ∧ (¬ (¬ s0 = 0) → (((I 120 3) ≤ (I 120 4) → Px (k + 1) 176 m_Mo_gather 128 [.ref 120, .int x1, .int x2, .null] [] (hp I J (pm_RT pa pb ga)) Q) ∧ (¬ ((I 120 3) ≤ (I 120 4)) → Px k 176 m_Mo_fail 0 [.ref 120, .int (I 120 4)] [] (hp I J (pm_RT pa pb ga)) (fun r h' => h'.1 = 176 ∧ Px (k + 1) 176 m_Mo_gather 128 [.ref 120, .int x1, .int x2, .null] (r.toList ++ []) h' Q)))))) : Px (k + 1) 176 m_Mo_gather 106 [.ref 120, .int x1, .int x2, .null] [.int s0] (hp I J (pm_RT pa pb ga)) Q := by
  refine x_b 109 rfl rfl rfl (fun c => ?_) (fun c => ?_)
  · have h := h.1 c
    exact h
  · have h := h.2 c
    refine x_l 110 rfl rfl rfl ?_
    refine z_gf 113 (.int (I 120 4)) rfl ⟨rfl, rfl, rfl⟩ rfl rfl ?_
    refine x_l 114 rfl rfl rfl ?_
    refine z_gf 117 (.int (I 120 3)) rfl ⟨rfl, rfl, rfl⟩ rfl rfl ?_
    refine x_b 120 rfl rfl rfl (fun c => ?_) (fun c => ?_)
    · have h := h.1 c
      exact h
    · have h := h.2 c
      refine x_l 121 rfl rfl rfl ?_
      refine x_l 122 rfl rfl rfl ?_
      refine z_gf 125 (.int (I 120 4)) rfl ⟨rfl, rfl, rfl⟩ rfl rfl ?_
      exact z_cv (As := [.int (I 120 4)]) (rest := []) (b := 120) rfl at_Mo_fail rfl rfl (Nat.le_of_ble_eq_true rfl) (Nat.le_of_ble_eq_true rfl) ⟨rfl, rfl, rfl⟩ (by decide) rfl h

theorem bk_Mo_gather_128 {k : Nat} {pa pb : Nat} {ga : Nat → Nat} {I : pm_II} {J : pm_JJ} {Q : Option Value → pm_H → Prop} {x1 : Int32} {x2 : Int32} (h : Px k 176 m_Mo_bad 0 [.ref 120] [] (hp I J (pm_RT pa pb ga)) (fun r h' => h'.1 = 176 ∧ Px (k + 1) 176 m_Mo_gather 132 [.ref 120, .int x1, .int x2, .null] (r.toList ++ []) h' Q)) : Px (k + 1) 176 m_Mo_gather 128 [.ref 120, .int x1, .int x2, .null] [] (hp I J (pm_RT pa pb ga)) Q := by
  refine x_l 129 rfl rfl rfl ?_
  exact z_cv (As := []) (rest := []) (b := 120) rfl at_Mo_bad rfl rfl (Nat.le_of_ble_eq_true rfl) (Nat.le_of_ble_eq_true rfl) ⟨rfl, rfl, rfl⟩ (by decide) rfl h

theorem bk_Mo_gather_132 {k : Nat} {pa pb : Nat} {ga : Nat → Nat} {I : pm_II} {J : pm_JJ} {Q : Option Value → pm_H → Prop} {x1 : Int32} {x2 : Int32} {s0 : Int32} (h : ((s0 = 0 → ((¬ x2 = 0 → Q (some (.int x2)) (hp I J (pm_RT pa pb ga))) ∧ (¬ (¬ x2 = 0) → (((I 120 20) ≤ x1 → Q (some (.int x2)) (hp I J (pm_RT pa pb ga))) ∧ (¬ ((I 120 20) ≤ x1) → Q (some (.int (x1 + (1 : Int32)))) (hp I J (pm_RT pa pb ga))))))) ∧ (¬ (s0 = 0) → Q (some (.int (((-1000) : Int32) - (I 120 5)))) (hp I J (pm_RT pa pb ga))))) : Px (k + 1) 176 m_Mo_gather 132 [.ref 120, .int x1, .int x2, .null] [.int s0] (hp I J (pm_RT pa pb ga)) Q := by
  refine x_b 135 rfl rfl rfl (fun c => ?_) (fun c => ?_)
  · have h := h.1 c
    refine x_l 145 rfl rfl rfl ?_
    refine x_b 148 rfl rfl rfl (fun c => ?_) (fun c => ?_)
    · have h := h.1 c
      refine x_l 163 rfl rfl rfl ?_
      exact x_ri rfl (Or.inl rfl) h
    · have h := h.2 c
      refine x_l 149 rfl rfl rfl ?_
      refine x_l 150 rfl rfl rfl ?_
      refine z_gf 153 (.int (I 120 20)) rfl ⟨rfl, rfl, rfl⟩ rfl rfl ?_
      refine x_b 156 rfl rfl rfl (fun c => ?_) (fun c => ?_)
      · have h := h.1 c
        refine x_l 163 rfl rfl rfl ?_
        exact x_ri rfl (Or.inl rfl) h
      · have h := h.2 c
        refine x_l 157 rfl rfl rfl ?_
        refine z_k 158 1 rfl (by decide) rfl ?_
        refine x_s 159 rfl rfl rfl ?_
        refine x_g rfl ?_
        exact x_ri rfl (Or.inl rfl) h
  · have h := h.2 c
    refine z_k 138 (-1000) rfl (by decide) rfl ?_
    refine x_l 139 rfl rfl rfl ?_
    refine z_gf 142 (.int (I 120 5)) rfl ⟨rfl, rfl, rfl⟩ rfl rfl ?_
    refine x_s 143 rfl rfl rfl ?_
    exact x_ri rfl (Or.inl rfl) h
