theorem bk_Ta_hasRoomFor_0 {k : Nat} {pa pb : Nat} {ga : Nat → Nat} {I : pm_II} {J : pm_JJ} {Q : Option Value → pm_H → Prop} {x1 : Int32} (h : (((Int32.ofNat 1600) < ((I 17 1) + x1) → Q (some (.int 0)) (hp I J (pm_RT pa pb ga))) ∧ (¬ ((Int32.ofNat 1600) < ((I 17 1) + x1)) → Q (some (.int 1)) (hp I J (pm_RT pa pb ga))))) : Px k 176 m_Ta_hasRoomFor 0 [.ref 17, .int x1] [] (hp I J (pm_RT pa pb ga)) Q := by
  refine x_l 1 rfl rfl rfl ?_
  refine z_gf 4 (.int (I 17 1)) rfl ⟨rfl, rfl, rfl⟩ rfl rfl ?_
  refine x_l 5 rfl rfl rfl ?_
  refine x_s 6 rfl rfl rfl ?_
  refine x_l 7 rfl rfl rfl ?_
  refine z_gf 10 (.ref 18) rfl ⟨rfl, rfl, rfl⟩ rfl rfl ?_
  refine z_al 11 1600 rfl ⟨rfl, rfl, rfl⟩ rfl rfl ?_
  refine x_b 14 rfl rfl rfl (fun c => ?_) (fun c => ?_)
  · have h := h.1 c
    refine z_k 19 0 rfl (by decide) rfl ?_
    exact x_ri rfl (Or.inr ⟨rfl, Or.inl rfl⟩) h
  · have h := h.2 c
    refine z_k 15 1 rfl (by decide) rfl ?_
    refine x_g rfl ?_
    exact x_ri rfl (Or.inr ⟨rfl, Or.inr rfl⟩) h

theorem bk_Ta_append_0 {k : Nat} {pa pb : Nat} {ga : Nat → Nat} {I : pm_II} {J : pm_JJ} {Q : Option Value → pm_H → Prop} {x1 : Int32} (h : Px k 176 m_Ta_append 3 [.ref 17, .int x1, .int 24] [] (hp I J (pm_RT pa pb ga)) Q) : Px k 176 m_Ta_append 0 [.ref 17, .int x1, .null] [] (hp I J (pm_RT pa pb ga)) Q := by
  refine z_k 2 24 rfl (by decide) rfl ?_
  refine x_t 3 rfl rfl rfl ?_
  exact h

theorem bk_Ta_append_3 {k : Nat} {pa pb : Nat} {ga : Nat → Nat} {I : pm_II} {J : pm_JJ} {Q : Option Value → pm_H → Prop} {x1 : Int32} {x2 : Int32} (h : ((x2 < 0 → Q none (hp I J (pm_RT pa pb ga))) ∧ (¬ (x2 < 0) → (((Int32.ofNat 1600) ≤ (I 17 1) → Px k 176 m_Ta_append 3 [.ref 17, .int x1, .int (x2 + Int32.ofInt (-8))] [] (hp I J (pm_RT pa pb ga)) Q) ∧ (¬ ((Int32.ofNat 1600) ≤ (I 17 1)) → vp_in (I 17 1) 1600 ∧ Px k 176 m_Ta_append 3 [.ref 17, .int x1, .int (x2 + Int32.ofInt (-8))] [] (hp (pm_up (pm_up I 18 (((I 17 1) : Int32).toNatClampNeg) (((x1).toUInt32 >>> ((x2).toUInt32 &&& Int32.toUInt32 31)).toInt32 &&& (255 : Int32))) 17 1 ((I 17 1) + (1 : Int32))) J (pm_RT pa pb ga)) Q))))) : Px k 176 m_Ta_append 3 [.ref 17, .int x1, .int x2] [] (hp I J (pm_RT pa pb ga)) Q := by
  refine x_l 4 rfl rfl rfl ?_
  refine x_b 7 rfl rfl rfl (fun c => ?_) (fun c => ?_)
  · have h := h.1 c
    exact x_rv rfl rfl h
  · have h := h.2 c
    refine x_l 8 rfl rfl rfl ?_
    refine z_gf 11 (.int (I 17 1)) rfl ⟨rfl, rfl, rfl⟩ rfl rfl ?_
    refine x_l 12 rfl rfl rfl ?_
    refine z_gf 15 (.ref 18) rfl ⟨rfl, rfl, rfl⟩ rfl rfl ?_
    refine z_al 16 1600 rfl ⟨rfl, rfl, rfl⟩ rfl rfl ?_
    refine x_b 19 rfl rfl rfl (fun c => ?_) (fun c => ?_)
    · have h := h.1 c
      refine x_t 48 rfl rfl rfl ?_
      refine x_g rfl ?_
      exact h
    · have h := h.2 c
      refine x_l 20 rfl rfl rfl ?_
      refine z_gf 23 (.ref 18) rfl ⟨rfl, rfl, rfl⟩ rfl rfl ?_
      refine x_l 24 rfl rfl rfl ?_
      refine z_gf 27 (.int (I 17 1)) rfl ⟨rfl, rfl, rfl⟩ rfl rfl ?_
      refine x_l 28 rfl rfl rfl ?_
      refine x_l 29 rfl rfl rfl ?_
      refine x_s 30 rfl rfl rfl ?_
      refine z_k 33 255 rfl (by decide) rfl ?_
      refine x_s 34 rfl rfl rfl ?_
      have h1 := h.1
      have h := h.2
      refine z_is 35 1600 rfl ⟨rfl, rfl, rfl⟩ rfl h1 rfl ?_
      refine x_l 36 rfl rfl rfl ?_
      refine x_s 37 rfl rfl rfl ?_
      refine z_gf 40 (.int (I 17 1)) rfl ⟨rfl, rfl, rfl⟩ rfl rfl ?_
      refine z_k 41 1 rfl (by decide) rfl ?_
      refine x_s 42 rfl rfl rfl ?_
      refine z_pi 45 rfl (Or.inl rfl) rfl (fun z => by cases z) ⟨rfl, rfl, rfl⟩ rfl ?_
      refine x_t 48 rfl rfl rfl ?_
      refine x_g rfl ?_
      exact h

theorem bk_Ta_length_0 {k : Nat} {pa pb : Nat} {ga : Nat → Nat} {I : pm_II} {J : pm_JJ} {Q : Option Value → pm_H → Prop} (h : Q (some (.int (I 17 1))) (hp I J (pm_RT pa pb ga))) : Px k 176 m_Ta_length 0 [.ref 17] [] (hp I J (pm_RT pa pb ga)) Q := by
  refine x_l 1 rfl rfl rfl ?_
  refine z_gf 4 (.int (I 17 1)) rfl ⟨rfl, rfl, rfl⟩ rfl rfl ?_
  exact x_ri rfl (Or.inl rfl) h

theorem bk_Ta_shorten_0 {k : Nat} {pa pb : Nat} {ga : Nat → Nat} {I : pm_II} {J : pm_JJ} {Q : Option Value → pm_H → Prop} {x1 : Int32} (h : ((x1 < 0 → Q (some (.int (-1))) (hp I J (pm_RT pa pb ga))) ∧ (¬ (x1 < 0) → ((x1 ≤ (I 17 1) → Q (some (.int x1)) (hp (pm_up I 17 1 x1) J (pm_RT pa pb ga))) ∧ (¬ (x1 ≤ (I 17 1)) → Q (some (.int (-1))) (hp I J (pm_RT pa pb ga))))))) : Px k 176 m_Ta_shorten 0 [.ref 17, .int x1] [] (hp I J (pm_RT pa pb ga)) Q := by
  refine x_l 1 rfl rfl rfl ?_
  refine x_b 4 rfl rfl rfl (fun c => ?_) (fun c => ?_)
  · have h := h.1 c
    refine z_k 13 (-1) rfl (by decide) rfl ?_
    exact x_ri rfl (Or.inl rfl) h
  · have h := h.2 c
    refine x_l 5 rfl rfl rfl ?_
    refine x_l 6 rfl rfl rfl ?_
    refine z_gf 9 (.int (I 17 1)) rfl ⟨rfl, rfl, rfl⟩ rfl rfl ?_
    refine x_b 12 rfl rfl rfl (fun c => ?_) (fun c => ?_)
    · have h := h.1 c
      refine x_l 15 rfl rfl rfl ?_
      refine x_l 16 rfl rfl rfl ?_
      refine z_pi 19 rfl (Or.inl rfl) rfl (fun z => by cases z) ⟨rfl, rfl, rfl⟩ rfl ?_
      refine x_l 20 rfl rfl rfl ?_
      exact x_ri rfl (Or.inl rfl) h
    · have h := h.2 c
      refine z_k 13 (-1) rfl (by decide) rfl ?_
      exact x_ri rfl (Or.inl rfl) h

theorem bk_Ta_open_0 {k : Nat} {pa pb : Nat} {ga : Nat → Nat} {I : pm_II} {J : pm_JJ} {Q : Option Value → pm_H → Prop} (h : Q none (hp (pm_up (pm_up (pm_up I 17 2 0) 17 3 0) 17 4 (-1)) J (pm_RT pa pb ga))) : Px k 176 m_Ta_open 0 [.ref 17] [] (hp I J (pm_RT pa pb ga)) Q := by
  refine x_l 1 rfl rfl rfl ?_
  refine z_k 2 0 rfl (by decide) rfl ?_
  refine z_pi 5 rfl (Or.inl rfl) rfl (fun z => by cases z) ⟨rfl, rfl, rfl⟩ rfl ?_
  refine x_l 6 rfl rfl rfl ?_
  refine z_k 7 0 rfl (by decide) rfl ?_
  refine z_pi 10 rfl (Or.inl rfl) rfl (fun z => by cases z) ⟨rfl, rfl, rfl⟩ rfl ?_
  refine x_l 11 rfl rfl rfl ?_
  refine z_k 12 (-1) rfl (by decide) rfl ?_
  refine z_pi 15 rfl (Or.inl rfl) rfl (fun z => by cases z) ⟨rfl, rfl, rfl⟩ rfl ?_
  exact x_rv rfl rfl h

theorem bk_Ta_readKeyword_0 {k : Nat} {pa pb : Nat} {ga : Nat → Nat} {I : pm_II} {J : pm_JJ} {Q : Option Value → pm_H → Prop} {a1 : Nat} (h : Px k 176 m_Ta_readLetters 0 [.ref 17, .int 1600, .int 1, .null] [] (hp I J (pm_RT pa pb ga)) (fun r h' => h'.1 = 176 ∧ Px (k + 1) 176 m_Ta_readKeyword 8 [.ref 17, .ref a1] (r.toList ++ []) h' Q)) : Px (k + 1) 176 m_Ta_readKeyword 0 [.ref 17, .ref a1] [] (hp I J (pm_RT pa pb ga)) Q := by
  refine x_l 1 rfl rfl rfl ?_
  refine z_k 4 1600 rfl (by decide) rfl ?_
  refine z_k 5 1 rfl (by decide) rfl ?_
  exact z_cv (As := [.int 1600, .int 1]) (rest := []) (b := 17) rfl at_Ta_readLetters rfl rfl (Nat.le_of_ble_eq_true rfl) (Nat.le_of_ble_eq_true rfl) ⟨rfl, rfl, rfl⟩ (by decide) rfl h

theorem bk_Ta_readKeyword_8 {k : Nat} {pa pb : Nat} {ga : Nat → Nat} {I : pm_II} {J : pm_JJ} {Q : Option Value → pm_H → Prop} {a1 : Nat} {s0 : Int32} (h : Px k 176 m_Ta_wordIs 0 [.ref 17, .ref a1, .null] [] (hp I J (pm_RT pa pb ga)) (fun r h' => h'.1 = 176 ∧ Px (k + 1) 176 m_Ta_readKeyword 14 [.ref 17, .ref a1] (r.toList ++ []) h' Q)) : Px (k + 1) 176 m_Ta_readKeyword 8 [.ref 17, .ref a1] [.int s0] (hp I J (pm_RT pa pb ga)) Q := by
  refine x_s 9 rfl rfl rfl ?_
  refine x_l 10 rfl rfl rfl ?_
  refine x_l 11 rfl rfl rfl ?_
  exact z_cv (As := [.ref a1]) (rest := []) (b := 17) rfl at_Ta_wordIs rfl rfl (Nat.le_of_ble_eq_true rfl) (Nat.le_of_ble_eq_true rfl) ⟨rfl, rfl, rfl⟩ (by decide) rfl h

theorem bk_Ta_readKeyword_14 {k : Nat} {pa pb : Nat} {ga : Nat → Nat} {I : pm_II} {J : pm_JJ} {Q : Option Value → pm_H → Prop} {a1 : Nat} {s0 : Int32} (h : ((¬ s0 = 0 → Px (k + 1) 176 m_Ta_readKeyword 21 [.ref 17, .ref a1] [] (hp I J (pm_RT pa pb ga)) Q) ∧ (¬ (¬ s0 = 0) → Px k 176 m_Ta_blameToken 0 [.ref 17] [] (hp I J (pm_RT pa pb ga)) (fun r h' => h'.1 = 176 ∧ Px (k + 1) 176 m_Ta_readKeyword 21 [.ref 17, .ref a1] (r.toList ++ []) h' Q)))) : Px (k + 1) 176 m_Ta_readKeyword 14 [.ref 17, .ref a1] [.int s0] (hp I J (pm_RT pa pb ga)) Q := by
  refine x_b 17 rfl rfl rfl (fun c => ?_) (fun c => ?_)
  · have h := h.1 c
    exact h
  · have h := h.2 c
    refine x_l 18 rfl rfl rfl ?_
    exact z_cv (As := []) (rest := []) (b := 17) rfl at_Ta_blameToken rfl rfl (Nat.le_of_ble_eq_true rfl) (Nat.le_of_ble_eq_true rfl) ⟨rfl, rfl, rfl⟩ (by decide) rfl h

theorem bk_Ta_readKeyword_21 {k : Nat} {pa pb : Nat} {ga : Nat → Nat} {I : pm_II} {J : pm_JJ} {Q : Option Value → pm_H → Prop} {a1 : Nat} (h : Q none (hp I J (pm_RT pa pb ga))) : Px (k + 1) 176 m_Ta_readKeyword 21 [.ref 17, .ref a1] [] (hp I J (pm_RT pa pb ga)) Q := by
  exact x_rv rfl rfl h

theorem bk_Ta_readLetters_0 {k : Nat} {pa pb : Nat} {ga : Nat → Nat} {I : pm_II} {J : pm_JJ} {Q : Option Value → pm_H → Prop} {x1 : Int32} {x2 : Int32} (h : Px (k + 1) 176 m_Ta_readLetters 10 [.ref 17, .int x1, .int x2, .int 0] [] (hp (pm_up I 17 3 (I 17 2)) J (pm_RT pa pb ga)) Q) : Px (k + 1) 176 m_Ta_readLetters 0 [.ref 17, .int x1, .int x2, .null] [] (hp I J (pm_RT pa pb ga)) Q := by
  refine x_l 1 rfl rfl rfl ?_
  refine x_l 2 rfl rfl rfl ?_
  refine z_gf 5 (.int (I 17 2)) rfl ⟨rfl, rfl, rfl⟩ rfl rfl ?_
  refine z_pi 8 rfl (Or.inl rfl) rfl (fun z => by cases z) ⟨rfl, rfl, rfl⟩ rfl ?_
  refine z_k 9 0 rfl (by decide) rfl ?_
  refine x_t 10 rfl rfl rfl ?_
  exact h

theorem bk_Ta_readLetters_10 {k : Nat} {pa pb : Nat} {ga : Nat → Nat} {I : pm_II} {J : pm_JJ} {Q : Option Value → pm_H → Prop} {x1 : Int32} {x2 : Int32} {x3 : Int32} (h : ((x1 ≤ x3 → Px (k + 1) 176 m_Ta_readLetters 59 [.ref 17, .int x1, .int x2, .int x3] [] (hp I J (pm_RT pa pb ga)) Q) ∧ (¬ (x1 ≤ x3) → Px k 176 m_Ta_next 0 [.ref 17] [] (hp I J (pm_RT pa pb ga)) (fun r h' => h'.1 = 176 ∧ Px (k + 1) 176 m_Ta_readLetters 19 [.ref 17, .int x1, .int x2, .int x3] (r.toList ++ []) h' Q)))) : Px (k + 1) 176 m_Ta_readLetters 10 [.ref 17, .int x1, .int x2, .int x3] [] (hp I J (pm_RT pa pb ga)) Q := by
  refine x_l 11 rfl rfl rfl ?_
  refine x_l 12 rfl rfl rfl ?_
  refine x_b 15 rfl rfl rfl (fun c => ?_) (fun c => ?_)
  · have h := h.1 c
    exact h
  · have h := h.2 c
    refine x_l 16 rfl rfl rfl ?_
    exact z_cv (As := []) (rest := []) (b := 17) rfl at_Ta_next rfl rfl (Nat.le_of_ble_eq_true rfl) (Nat.le_of_ble_eq_true rfl) ⟨rfl, rfl, rfl⟩ (by decide) rfl h

theorem bk_Ta_readLetters_19 {k : Nat} {pa pb : Nat} {ga : Nat → Nat} {I : pm_II} {J : pm_JJ} {Q : Option Value → pm_H → Prop} {x1 : Int32} {x2 : Int32} {x3 : Int32} {s0 : Int32} (h : Px k 176 m_Ta_isLetter 0 [.int s0] [] (hp I J (pm_RT pa pb ga)) (fun r h' => h'.1 = 176 ∧ Px (k + 1) 176 m_Ta_readLetters 22 [.ref 17, .int x1, .int x2, .int x3] (r.toList ++ []) h' Q)) : Px (k + 1) 176 m_Ta_readLetters 19 [.ref 17, .int x1, .int x2, .int x3] [.int s0] (hp I J (pm_RT pa pb ga)) Q := by
  exact z_cs (As := [.int s0]) (rest := []) rfl at_Ta_isLetter rfl rfl (Nat.le_of_ble_eq_true rfl) (Nat.le_of_ble_eq_true rfl) rfl h

theorem bk_Ta_readLetters_22 {k : Nat} {pa pb : Nat} {ga : Nat → Nat} {I : pm_II} {J : pm_JJ} {Q : Option Value → pm_H → Prop} {x1 : Int32} {x2 : Int32} {x3 : Int32} {s0 : Int32} (h : ((¬ s0 = 0 → Px (k + 1) 176 m_Ta_readLetters 10 [.ref 17, .int x1, .int x2, .int (x3 + Int32.ofInt 1)] [] (hp (pm_up I 17 2 ((I 17 2) + (1 : Int32))) J (pm_RT pa pb ga)) Q) ∧ (¬ (¬ s0 = 0) → ((x2 = 0 → Px (k + 1) 176 m_Ta_readLetters 59 [.ref 17, .int x1, .int x2, .int x3] [] (hp I J (pm_RT pa pb ga)) Q) ∧ (¬ (x2 = 0) → ((x3 ≤ 0 → Px (k + 1) 176 m_Ta_readLetters 59 [.ref 17, .int x1, .int x2, .int x3] [] (hp I J (pm_RT pa pb ga)) Q) ∧ (¬ (x3 ≤ 0) → Px k 176 m_Ta_next 0 [.ref 17] [] (hp I J (pm_RT pa pb ga)) (fun r h' => h'.1 = 176 ∧ Px (k + 1) 176 m_Ta_readLetters 37 [.ref 17, .int x1, .int x2, .int x3] (r.toList ++ []) h' Q)))))))) : Px (k + 1) 176 m_Ta_readLetters 22 [.ref 17, .int x1, .int x2, .int x3] [.int s0] (hp I J (pm_RT pa pb ga)) Q := by
  refine x_b 25 rfl rfl rfl (fun c => ?_) (fun c => ?_)
  · have h := h.1 c
    refine x_l 44 rfl rfl rfl ?_
    refine x_s 45 rfl rfl rfl ?_
    refine z_gf 48 (.int (I 17 2)) rfl ⟨rfl, rfl, rfl⟩ rfl rfl ?_
    refine z_k 49 1 rfl (by decide) rfl ?_
    refine x_s 50 rfl rfl rfl ?_
    refine z_pi 53 rfl (Or.inl rfl) rfl (fun z => by cases z) ⟨rfl, rfl, rfl⟩ rfl ?_
    refine x_t 56 rfl rfl rfl ?_
    refine x_g rfl ?_
    exact h
  · have h := h.2 c
    refine x_l 26 rfl rfl rfl ?_
    refine x_b 29 rfl rfl rfl (fun c => ?_) (fun c => ?_)
    · have h := h.1 c
      exact h
    · have h := h.2 c
      refine x_l 30 rfl rfl rfl ?_
      refine x_b 33 rfl rfl rfl (fun c => ?_) (fun c => ?_)
      · have h := h.1 c
        exact h
      · have h := h.2 c
        refine x_l 34 rfl rfl rfl ?_
        exact z_cv (As := []) (rest := []) (b := 17) rfl at_Ta_next rfl rfl (Nat.le_of_ble_eq_true rfl) (Nat.le_of_ble_eq_true rfl) ⟨rfl, rfl, rfl⟩ (by decide) rfl h

theorem bk_Ta_readLetters_37 {k : Nat} {pa pb : Nat} {ga : Nat → Nat} {I : pm_II} {J : pm_JJ} {Q : Option Value → pm_H → Prop} {x1 : Int32} {x2 : Int32} {x3 : Int32} {s0 : Int32} (h : Px k 176 m_Ta_isDigit 0 [.int s0] [] (hp I J (pm_RT pa pb ga)) (fun r h' => h'.1 = 176 ∧ Px (k + 1) 176 m_Ta_readLetters 40 [.ref 17, .int x1, .int x2, .int x3] (r.toList ++ []) h' Q)) : Px (k + 1) 176 m_Ta_readLetters 37 [.ref 17, .int x1, .int x2, .int x3] [.int s0] (hp I J (pm_RT pa pb ga)) Q := by
  exact z_cs (As := [.int s0]) (rest := []) rfl at_Ta_isDigit rfl rfl (Nat.le_of_ble_eq_true rfl) (Nat.le_of_ble_eq_true rfl) rfl h

theorem bk_Ta_readLetters_40 {k : Nat} {pa pb : Nat} {ga : Nat → Nat} {I : pm_II} {J : pm_JJ} {Q : Option Value → pm_H → Prop} {x1 : Int32} {x2 : Int32} {x3 : Int32} {s0 : Int32} (h : ((s0 = 0 → Px (k + 1) 176 m_Ta_readLetters 59 [.ref 17, .int x1, .int x2, .int x3] [] (hp I J (pm_RT pa pb ga)) Q) ∧ (¬ (s0 = 0) → Px (k + 1) 176 m_Ta_readLetters 10 [.ref 17, .int x1, .int x2, .int (x3 + Int32.ofInt 1)] [] (hp (pm_up I 17 2 ((I 17 2) + (1 : Int32))) J (pm_RT pa pb ga)) Q))) : Px (k + 1) 176 m_Ta_readLetters 40 [.ref 17, .int x1, .int x2, .int x3] [.int s0] (hp I J (pm_RT pa pb ga)) Q := by
  refine x_b 43 rfl rfl rfl (fun c => ?_) (fun c => ?_)
  · have h := h.1 c
    exact h
  · have h := h.2 c
    refine x_l 44 rfl rfl rfl ?_
    refine x_s 45 rfl rfl rfl ?_
    refine z_gf 48 (.int (I 17 2)) rfl ⟨rfl, rfl, rfl⟩ rfl rfl ?_
    refine z_k 49 1 rfl (by decide) rfl ?_
    refine x_s 50 rfl rfl rfl ?_
    refine z_pi 53 rfl (Or.inl rfl) rfl (fun z => by cases z) ⟨rfl, rfl, rfl⟩ rfl ?_
    refine x_t 56 rfl rfl rfl ?_
    refine x_g rfl ?_
    exact h

theorem bk_Ta_readLetters_59 {k : Nat} {pa pb : Nat} {ga : Nat → Nat} {I : pm_II} {J : pm_JJ} {Q : Option Value → pm_H → Prop} {x1 : Int32} {x2 : Int32} {x3 : Int32} (h : ((¬ x3 = 0 → Px (k + 1) 176 m_Ta_readLetters 71 [.ref 17, .int x1, .int x2, .int x3] [] (hp I J (pm_RT pa pb ga)) Q) ∧ (¬ (¬ x3 = 0) → Px k 176 m_Ta_blame 0 [.ref 17, .int (I 17 2)] [] (hp I J (pm_RT pa pb ga)) (fun r h' => h'.1 = 176 ∧ Px (k + 1) 176 m_Ta_readLetters 71 [.ref 17, .int x1, .int x2, .int x3] (r.toList ++ []) h' Q)))) : Px (k + 1) 176 m_Ta_readLetters 59 [.ref 17, .int x1, .int x2, .int x3] [] (hp I J (pm_RT pa pb ga)) Q := by
  refine x_l 60 rfl rfl rfl ?_
  refine x_b 63 rfl rfl rfl (fun c => ?_) (fun c => ?_)
  · have h := h.1 c
    exact h
  · have h := h.2 c
    refine x_l 64 rfl rfl rfl ?_
    refine x_l 65 rfl rfl rfl ?_
    refine z_gf 68 (.int (I 17 2)) rfl ⟨rfl, rfl, rfl⟩ rfl rfl ?_
    exact z_cv (As := [.int (I 17 2)]) (rest := []) (b := 17) rfl at_Ta_blame rfl rfl (Nat.le_of_ble_eq_true rfl) (Nat.le_of_ble_eq_true rfl) ⟨rfl, rfl, rfl⟩ (by decide) rfl h

theorem bk_Ta_readLetters_71 {k : Nat} {pa pb : Nat} {ga : Nat → Nat} {I : pm_II} {J : pm_JJ} {Q : Option Value → pm_H → Prop} {x1 : Int32} {x2 : Int32} {x3 : Int32} (h : Q (some (.int x3)) (hp I J (pm_RT pa pb ga))) : Px (k + 1) 176 m_Ta_readLetters 71 [.ref 17, .int x1, .int x2, .int x3] [] (hp I J (pm_RT pa pb ga)) Q := by
  refine x_l 72 rfl rfl rfl ?_
  exact x_ri rfl (Or.inl rfl) h

theorem bk_Ta_next_0 {k : Nat} {pa pb : Nat} {ga : Nat → Nat} {I : pm_II} {J : pm_JJ} {Q : Option Value → pm_H → Prop} (h : ((¬ (I 17 4) = (-1) → Q (some (.int (-1))) (hp I J (pm_RT pa pb ga))) ∧ (¬ (¬ (I 17 4) = (-1)) → (((I 17 1) ≤ (I 17 2) → Q (some (.int (-1))) (hp I J (pm_RT pa pb ga))) ∧ (¬ ((I 17 1) ≤ (I 17 2)) → vp_in (I 17 2) 1600 ∧ Q (some (.int (I 18 (((I 17 2) : Int32).toNatClampNeg)))) (hp I J (pm_RT pa pb ga))))))) : Px k 176 m_Ta_next 0 [.ref 17] [] (hp I J (pm_RT pa pb ga)) Q := by
  refine x_l 1 rfl rfl rfl ?_
  refine z_gf 4 (.int (I 17 4)) rfl ⟨rfl, rfl, rfl⟩ rfl rfl ?_
  refine z_k 5 (-1) rfl (by decide) rfl ?_
  refine x_b 8 rfl rfl rfl (fun c => ?_) (fun c => ?_)
  · have h := h.1 c
    refine z_k 32 (-1) rfl (by decide) rfl ?_
    exact x_ri rfl (Or.inl rfl) h
  · have h := h.2 c
    refine x_l 9 rfl rfl rfl ?_
    refine z_gf 12 (.int (I 17 2)) rfl ⟨rfl, rfl, rfl⟩ rfl rfl ?_
    refine x_l 13 rfl rfl rfl ?_
    refine z_gf 16 (.int (I 17 1)) rfl ⟨rfl, rfl, rfl⟩ rfl rfl ?_
    refine x_b 19 rfl rfl rfl (fun c => ?_) (fun c => ?_)
    · have h := h.1 c
      refine z_k 32 (-1) rfl (by decide) rfl ?_
      exact x_ri rfl (Or.inl rfl) h
    · have h := h.2 c
      refine x_l 20 rfl rfl rfl ?_
      refine z_gf 23 (.ref 18) rfl ⟨rfl, rfl, rfl⟩ rfl rfl ?_
      refine x_l 24 rfl rfl rfl ?_
      refine z_gf 27 (.int (I 17 2)) rfl ⟨rfl, rfl, rfl⟩ rfl rfl ?_
      have h1 := h.1
      have h := h.2
      refine z_il 28 1600 rfl ⟨rfl, rfl, rfl⟩ rfl h1 rfl ?_
      refine x_g rfl ?_
      exact x_ri rfl (Or.inl rfl) h

theorem bk_Ta_isLetter_0 {k : Nat} {pa pb : Nat} {ga : Nat → Nat} {I : pm_II} {J : pm_JJ} {Q : Option Value → pm_H → Prop} {x0 : Int32} (h : ((x0 < 97 → Q (some (.int 0)) (hp I J (pm_RT pa pb ga))) ∧ (¬ (x0 < 97) → ((122 < x0 → Q (some (.int 0)) (hp I J (pm_RT pa pb ga))) ∧ (¬ (122 < x0) → Q (some (.int 1)) (hp I J (pm_RT pa pb ga))))))) : Px k 176 m_Ta_isLetter 0 [.int x0] [] (hp I J (pm_RT pa pb ga)) Q := by
  refine x_l 1 rfl rfl rfl ?_
  refine z_k 3 97 rfl (by decide) rfl ?_
  refine x_b 6 rfl rfl rfl (fun c => ?_) (fun c => ?_)
  · have h := h.1 c
    refine z_k 17 0 rfl (by decide) rfl ?_
    exact x_ri rfl (Or.inr ⟨rfl, Or.inl rfl⟩) h
  · have h := h.2 c
    refine x_l 7 rfl rfl rfl ?_
    refine z_k 9 122 rfl (by decide) rfl ?_
    refine x_b 12 rfl rfl rfl (fun c => ?_) (fun c => ?_)
    · have h := h.1 c
      refine z_k 17 0 rfl (by decide) rfl ?_
      exact x_ri rfl (Or.inr ⟨rfl, Or.inl rfl⟩) h
    · have h := h.2 c
      refine z_k 13 1 rfl (by decide) rfl ?_
      refine x_g rfl ?_
      exact x_ri rfl (Or.inr ⟨rfl, Or.inr rfl⟩) h

theorem bk_Ta_isDigit_0 {k : Nat} {pa pb : Nat} {ga : Nat → Nat} {I : pm_II} {J : pm_JJ} {Q : Option Value → pm_H → Prop} {x0 : Int32} (h : ((x0 < 48 → Q (some (.int 0)) (hp I J (pm_RT pa pb ga))) ∧ (¬ (x0 < 48) → ((57 < x0 → Q (some (.int 0)) (hp I J (pm_RT pa pb ga))) ∧ (¬ (57 < x0) → Q (some (.int 1)) (hp I J (pm_RT pa pb ga))))))) : Px k 176 m_Ta_isDigit 0 [.int x0] [] (hp I J (pm_RT pa pb ga)) Q := by
  refine x_l 1 rfl rfl rfl ?_
  refine z_k 3 48 rfl (by decide) rfl ?_
  refine x_b 6 rfl rfl rfl (fun c => ?_) (fun c => ?_)
  · have h := h.1 c
    refine z_k 17 0 rfl (by decide) rfl ?_
    exact x_ri rfl (Or.inr ⟨rfl, Or.inl rfl⟩) h
  · have h := h.2 c
    refine x_l 7 rfl rfl rfl ?_
    refine z_k 9 57 rfl (by decide) rfl ?_
    refine x_b 12 rfl rfl rfl (fun c => ?_) (fun c => ?_)
    · have h := h.1 c
      refine z_k 17 0 rfl (by decide) rfl ?_
      exact x_ri rfl (Or.inr ⟨rfl, Or.inl rfl⟩) h
    · have h := h.2 c
      refine z_k 13 1 rfl (by decide) rfl ?_
      refine x_g rfl ?_
      exact x_ri rfl (Or.inr ⟨rfl, Or.inr rfl⟩) h

theorem bk_Ta_blame_0 {k : Nat} {pa pb : Nat} {ga : Nat → Nat} {I : pm_II} {J : pm_JJ} {Q : Option Value → pm_H → Prop} {x1 : Int32} (h : ((¬ (I 17 4) = (-1) → Q none (hp I J (pm_RT pa pb ga))) ∧ (¬ (¬ (I 17 4) = (-1)) → Q none (hp (pm_up I 17 4 x1) J (pm_RT pa pb ga))))) : Px k 176 m_Ta_blame 0 [.ref 17, .int x1] [] (hp I J (pm_RT pa pb ga)) Q := by
  refine x_l 1 rfl rfl rfl ?_
  refine z_gf 4 (.int (I 17 4)) rfl ⟨rfl, rfl, rfl⟩ rfl rfl ?_
  refine z_k 5 (-1) rfl (by decide) rfl ?_
  refine x_b 8 rfl rfl rfl (fun c => ?_) (fun c => ?_)
  · have h := h.1 c
    exact x_rv rfl rfl h
  · have h := h.2 c
    refine x_l 9 rfl rfl rfl ?_
    refine x_l 10 rfl rfl rfl ?_
    refine z_pi 13 rfl (Or.inl rfl) rfl (fun z => by cases z) ⟨rfl, rfl, rfl⟩ rfl ?_
    exact x_rv rfl rfl h

theorem bk_Ta_wordIs_0 {k : Nat} {pa pb : Nat} {ga : Nat → Nat} {I : pm_II} {J : pm_JJ} {Q : Option Value → pm_H → Prop} {a1 : Nat} (h : (3 ≤ a1 ∧ a1 < 11) ∧ ((((I 17 2) - (I 17 3)) = (Int32.ofNat (pm_txt a1).length) → Px (k + 4) 176 m_Ta_wordIs 20 [.ref 17, .ref a1, .int 0] [] (hp I J (pm_RT pa pb ga)) Q) ∧ (¬ (((I 17 2) - (I 17 3)) = (Int32.ofNat (pm_txt a1).length)) → Q (some (.int 0)) (hp I J (pm_RT pa pb ga))))) : Px (k + 4) 176 m_Ta_wordIs 0 [.ref 17, .ref a1, .null] [] (hp I J (pm_RT pa pb ga)) Q := by
  refine x_l 1 rfl rfl rfl ?_
  refine z_gf 4 (.int (I 17 2)) rfl ⟨rfl, rfl, rfl⟩ rfl rfl ?_
  refine x_l 5 rfl rfl rfl ?_
  refine z_gf 8 (.int (I 17 3)) rfl ⟨rfl, rfl, rfl⟩ rfl rfl ?_
  refine x_s 9 rfl rfl rfl ?_
  refine x_l 10 rfl rfl rfl ?_
  have h3 := h.1
  have h := h.2
  refine z_tl 13 rfl h3 (Nat.le_of_ble_eq_true rfl) rfl ?_
  refine x_b 16 rfl rfl rfl (fun c => ?_) (fun c => ?_)
  · have h := h.1 c
    refine z_k 19 0 rfl (by decide) rfl ?_
    refine x_t 20 rfl rfl rfl ?_
    exact h
  · have h := h.2 c
    refine z_k 17 0 rfl (by decide) rfl ?_
    exact x_ri rfl (Or.inr ⟨rfl, Or.inl rfl⟩) h

theorem bk_Ta_wordIs_20 {k : Nat} {pa pb : Nat} {ga : Nat → Nat} {I : pm_II} {J : pm_JJ} {Q : Option Value → pm_H → Prop} {a1 : Nat} {x2 : Int32} (h : (3 ≤ a1 ∧ a1 < 11) ∧ (((Int32.ofNat (pm_txt a1).length) ≤ x2 → Q (some (.int 1)) (hp I J (pm_RT pa pb ga))) ∧ (¬ ((Int32.ofNat (pm_txt a1).length) ≤ x2) → Px (k + 3) 176 m_Ta_byteAt 0 [.ref 17, .int ((I 17 3) + x2)] [] (hp I J (pm_RT pa pb ga)) (fun r h' => h'.1 = 176 ∧ Px (k + 4) 176 m_Ta_wordIs 38 [.ref 17, .ref a1, .int x2] (r.toList ++ []) h' Q)))) : Px (k + 4) 176 m_Ta_wordIs 20 [.ref 17, .ref a1, .int x2] [] (hp I J (pm_RT pa pb ga)) Q := by
  refine x_l 21 rfl rfl rfl ?_
  refine x_l 22 rfl rfl rfl ?_
  have h3 := h.1
  have h := h.2
  refine z_tl 25 rfl h3 (Nat.le_of_ble_eq_true rfl) rfl ?_
  refine x_b 28 rfl rfl rfl (fun c => ?_) (fun c => ?_)
  · have h := h.1 c
    refine z_k 55 1 rfl (by decide) rfl ?_
    exact x_ri rfl (Or.inr ⟨rfl, Or.inr rfl⟩) h
  · have h := h.2 c
    refine x_l 29 rfl rfl rfl ?_
    refine x_l 30 rfl rfl rfl ?_
    refine z_gf 33 (.int (I 17 3)) rfl ⟨rfl, rfl, rfl⟩ rfl rfl ?_
    refine x_l 34 rfl rfl rfl ?_
    refine x_s 35 rfl rfl rfl ?_
    exact z_cv (As := [.int ((I 17 3) + x2)]) (rest := []) (b := 17) rfl at_Ta_byteAt rfl rfl (Nat.le_of_ble_eq_true rfl) (Nat.le_of_ble_eq_true rfl) ⟨rfl, rfl, rfl⟩ (by decide) rfl h

theorem bk_Ta_wordIs_38 {k : Nat} {pa pb : Nat} {ga : Nat → Nat} {I : pm_II} {J : pm_JJ} {Q : Option Value → pm_H → Prop} {a1 : Nat} {x2 : Int32} {s0 : Int32} (h : (3 ≤ a1 ∧ a1 < 11) ∧ vp_in x2 (pm_txt a1).length ∧ ((s0 = ((pm_txt a1).getD (x2 : Int32).toNatClampNeg 0) → Px (k + 4) 176 m_Ta_wordIs 20 [.ref 17, .ref a1, .int (x2 + Int32.ofInt 1)] [] (hp I J (pm_RT pa pb ga)) Q) ∧ (¬ (s0 = ((pm_txt a1).getD (x2 : Int32).toNatClampNeg 0)) → Q (some (.int 0)) (hp I J (pm_RT pa pb ga))))) : Px (k + 4) 176 m_Ta_wordIs 38 [.ref 17, .ref a1, .int x2] [.int s0] (hp I J (pm_RT pa pb ga)) Q := by
  refine x_l 39 rfl rfl rfl ?_
  refine x_l 40 rfl rfl rfl ?_
  have h3 := h.1
  have h := h.2
  have h1 := h.1
  have h := h.2
  refine z_tc 43 rfl h3 h1 (Nat.le_of_ble_eq_true rfl) rfl ?_
  refine x_b 46 rfl rfl rfl (fun c => ?_) (fun c => ?_)
  · have h := h.1 c
    refine x_t 51 rfl rfl rfl ?_
    refine x_g rfl ?_
    exact h
  · have h := h.2 c
    refine z_k 47 0 rfl (by decide) rfl ?_
    exact x_ri rfl (Or.inr ⟨rfl, Or.inl rfl⟩) h

theorem bk_Ta_byteAt_0 {k : Nat} {pa pb : Nat} {ga : Nat → Nat} {I : pm_II} {J : pm_JJ} {Q : Option Value → pm_H → Prop} {x1 : Int32} (h : ((x1 < 0 → Q (some (.int (-1))) (hp I J (pm_RT pa pb ga))) ∧ (¬ (x1 < 0) → (((I 17 1) ≤ x1 → Q (some (.int (-1))) (hp I J (pm_RT pa pb ga))) ∧ (¬ ((I 17 1) ≤ x1) → vp_in x1 1600 ∧ Q (some (.int (I 18 ((x1 : Int32).toNatClampNeg)))) (hp I J (pm_RT pa pb ga))))))) : Px k 176 m_Ta_byteAt 0 [.ref 17, .int x1] [] (hp I J (pm_RT pa pb ga)) Q := by
  refine x_l 1 rfl rfl rfl ?_
  refine x_b 4 rfl rfl rfl (fun c => ?_) (fun c => ?_)
  · have h := h.1 c
    refine z_k 22 (-1) rfl (by decide) rfl ?_
    exact x_ri rfl (Or.inl rfl) h
  · have h := h.2 c
    refine x_l 5 rfl rfl rfl ?_
    refine x_l 6 rfl rfl rfl ?_
    refine z_gf 9 (.int (I 17 1)) rfl ⟨rfl, rfl, rfl⟩ rfl rfl ?_
    refine x_b 12 rfl rfl rfl (fun c => ?_) (fun c => ?_)
    · have h := h.1 c
      refine z_k 22 (-1) rfl (by decide) rfl ?_
      exact x_ri rfl (Or.inl rfl) h
    · have h := h.2 c
      refine x_l 13 rfl rfl rfl ?_
      refine z_gf 16 (.ref 18) rfl ⟨rfl, rfl, rfl⟩ rfl rfl ?_
      refine x_l 17 rfl rfl rfl ?_
      have h1 := h.1
      have h := h.2
      refine z_il 18 1600 rfl ⟨rfl, rfl, rfl⟩ rfl h1 rfl ?_
      refine x_g rfl ?_
      exact x_ri rfl (Or.inl rfl) h

theorem bk_Ta_blameToken_0 {k : Nat} {pa pb : Nat} {ga : Nat → Nat} {I : pm_II} {J : pm_JJ} {Q : Option Value → pm_H → Prop} (h : Px k 176 m_Ta_blame 0 [.ref 17, .int (I 17 3)] [] (hp I J (pm_RT pa pb ga)) (fun r h' => h'.1 = 176 ∧ Px (k + 1) 176 m_Ta_blameToken 8 [.ref 17] (r.toList ++ []) h' Q)) : Px (k + 1) 176 m_Ta_blameToken 0 [.ref 17] [] (hp I J (pm_RT pa pb ga)) Q := by
  refine x_l 1 rfl rfl rfl ?_
  refine x_l 2 rfl rfl rfl ?_
  refine z_gf 5 (.int (I 17 3)) rfl ⟨rfl, rfl, rfl⟩ rfl rfl ?_
  exact z_cv (As := [.int (I 17 3)]) (rest := []) (b := 17) rfl at_Ta_blame rfl rfl (Nat.le_of_ble_eq_true rfl) (Nat.le_of_ble_eq_true rfl) ⟨rfl, rfl, rfl⟩ (by decide) rfl h

theorem bk_Ta_blameToken_8 {k : Nat} {pa pb : Nat} {ga : Nat → Nat} {I : pm_II} {J : pm_JJ} {Q : Option Value → pm_H → Prop} (h : Q none (hp I J (pm_RT pa pb ga))) : Px (k + 1) 176 m_Ta_blameToken 8 [.ref 17] [] (hp I J (pm_RT pa pb ga)) Q := by
  exact x_rv rfl rfl h

theorem bk_Ta_readNextNumber_0 {k : Nat} {pa pb : Nat} {ga : Nat → Nat} {I : pm_II} {J : pm_JJ} {Q : Option Value → pm_H → Prop} {x1 : Int32} {x2 : Int32} (h : Px k 176 m_Ta_expect 0 [.ref 17, .int 32] [] (hp I J (pm_RT pa pb ga)) (fun r h' => h'.1 = 176 ∧ Px (k + 1) 176 m_Ta_readNextNumber 6 [.ref 17, .int x1, .int x2] (r.toList ++ []) h' Q)) : Px (k + 1) 176 m_Ta_readNextNumber 0 [.ref 17, .int x1, .int x2] [] (hp I J (pm_RT pa pb ga)) Q := by
  refine x_l 1 rfl rfl rfl ?_
  refine z_k 3 32 rfl (by decide) rfl ?_
  exact z_cv (As := [.int 32]) (rest := []) (b := 17) rfl at_Ta_expect rfl rfl (Nat.le_of_ble_eq_true rfl) (Nat.le_of_ble_eq_true rfl) ⟨rfl, rfl, rfl⟩ (by decide) rfl h

theorem bk_Ta_readNextNumber_6 {k : Nat} {pa pb : Nat} {ga : Nat → Nat} {I : pm_II} {J : pm_JJ} {Q : Option Value → pm_H → Prop} {x1 : Int32} {x2 : Int32} (h : Px k 176 m_Ta_readNumber 0 [.ref 17, .int x1, .int x2, .null, .null, .null] [] (hp I J (pm_RT pa pb ga)) (fun r h' => h'.1 = 176 ∧ Px (k + 1) 176 m_Ta_readNextNumber 12 [.ref 17, .int x1, .int x2] (r.toList ++ []) h' Q)) : Px (k + 1) 176 m_Ta_readNextNumber 6 [.ref 17, .int x1, .int x2] [] (hp I J (pm_RT pa pb ga)) Q := by
  refine x_l 7 rfl rfl rfl ?_
  refine x_l 8 rfl rfl rfl ?_
  refine x_l 9 rfl rfl rfl ?_
  exact z_cv (As := [.int x1, .int x2]) (rest := []) (b := 17) rfl at_Ta_readNumber rfl rfl (Nat.le_of_ble_eq_true rfl) (Nat.le_of_ble_eq_true rfl) ⟨rfl, rfl, rfl⟩ (by decide) rfl h

theorem bk_Ta_readNextNumber_12 {k : Nat} {pa pb : Nat} {ga : Nat → Nat} {I : pm_II} {J : pm_JJ} {Q : Option Value → pm_H → Prop} {x1 : Int32} {x2 : Int32} {s0 : Int32} (h : Q (some (.int s0)) (hp I J (pm_RT pa pb ga))) : Px (k + 1) 176 m_Ta_readNextNumber 12 [.ref 17, .int x1, .int x2] [.int s0] (hp I J (pm_RT pa pb ga)) Q := by
  exact x_ri rfl (Or.inl rfl) h

theorem bk_Ta_expect_0 {k : Nat} {pa pb : Nat} {ga : Nat → Nat} {I : pm_II} {J : pm_JJ} {Q : Option Value → pm_H → Prop} {x1 : Int32} (h : Px k 176 m_Ta_takes 0 [.ref 17, .int x1] [] (hp I J (pm_RT pa pb ga)) (fun r h' => h'.1 = 176 ∧ Px (k + 1) 176 m_Ta_expect 5 [.ref 17, .int x1] (r.toList ++ []) h' Q)) : Px (k + 1) 176 m_Ta_expect 0 [.ref 17, .int x1] [] (hp I J (pm_RT pa pb ga)) Q := by
  refine x_l 1 rfl rfl rfl ?_
  refine x_l 2 rfl rfl rfl ?_
  exact z_cv (As := [.int x1]) (rest := []) (b := 17) rfl at_Ta_takes rfl rfl (Nat.le_of_ble_eq_true rfl) (Nat.le_of_ble_eq_true rfl) ⟨rfl, rfl, rfl⟩ (by decide) rfl h

theorem bk_Ta_expect_5 {k : Nat} {pa pb : Nat} {ga : Nat → Nat} {I : pm_II} {J : pm_JJ} {Q : Option Value → pm_H → Prop} {x1 : Int32} {s0 : Int32} (h : ((¬ s0 = 0 → Px (k + 1) 176 m_Ta_expect 16 [.ref 17, .int x1] [] (hp I J (pm_RT pa pb ga)) Q) ∧ (¬ (¬ s0 = 0) → Px k 176 m_Ta_blame 0 [.ref 17, .int (I 17 2)] [] (hp I J (pm_RT pa pb ga)) (fun r h' => h'.1 = 176 ∧ Px (k + 1) 176 m_Ta_expect 16 [.ref 17, .int x1] (r.toList ++ []) h' Q)))) : Px (k + 1) 176 m_Ta_expect 5 [.ref 17, .int x1] [.int s0] (hp I J (pm_RT pa pb ga)) Q := by
  refine x_b 8 rfl rfl rfl (fun c => ?_) (fun c => ?_)
  · have h := h.1 c
    exact h
  · have h := h.2 c
    refine x_l 9 rfl rfl rfl ?_
    refine x_l 10 rfl rfl rfl ?_
    refine z_gf 13 (.int (I 17 2)) rfl ⟨rfl, rfl, rfl⟩ rfl rfl ?_
    exact z_cv (As := [.int (I 17 2)]) (rest := []) (b := 17) rfl at_Ta_blame rfl rfl (Nat.le_of_ble_eq_true rfl) (Nat.le_of_ble_eq_true rfl) ⟨rfl, rfl, rfl⟩ (by decide) rfl h

theorem bk_Ta_expect_16 {k : Nat} {pa pb : Nat} {ga : Nat → Nat} {I : pm_II} {J : pm_JJ} {Q : Option Value → pm_H → Prop} {x1 : Int32} (h : Q none (hp I J (pm_RT pa pb ga))) : Px (k + 1) 176 m_Ta_expect 16 [.ref 17, .int x1] [] (hp I J (pm_RT pa pb ga)) Q := by
  exact x_rv rfl rfl h

theorem bk_Ta_takes_0 {k : Nat} {pa pb : Nat} {ga : Nat → Nat} {I : pm_II} {J : pm_JJ} {Q : Option Value → pm_H → Prop} {x1 : Int32} (h : Px k 176 m_Ta_hasMore 0 [.ref 17] [] (hp I J (pm_RT pa pb ga)) (fun r h' => h'.1 = 176 ∧ Px (k + 1) 176 m_Ta_takes 4 [.ref 17, .int x1] (r.toList ++ []) h' Q)) : Px (k + 1) 176 m_Ta_takes 0 [.ref 17, .int x1] [] (hp I J (pm_RT pa pb ga)) Q := by
  refine x_l 1 rfl rfl rfl ?_
  exact z_cv (As := []) (rest := []) (b := 17) rfl at_Ta_hasMore rfl rfl (Nat.le_of_ble_eq_true rfl) (Nat.le_of_ble_eq_true rfl) ⟨rfl, rfl, rfl⟩ (by decide) rfl h

theorem bk_Ta_takes_4 {k : Nat} {pa pb : Nat} {ga : Nat → Nat} {I : pm_II} {J : pm_JJ} {Q : Option Value → pm_H → Prop} {x1 : Int32} {s0 : Int32} (h : ((s0 = 0 → Q (some (.int 0)) (hp I J (pm_RT pa pb ga))) ∧ (¬ (s0 = 0) → vp_in (I 17 2) 1600 ∧ (((I 18 (((I 17 2) : Int32).toNatClampNeg)) = x1 → Q (some (.int 1)) (hp (pm_up I 17 2 ((I 17 2) + (1 : Int32))) J (pm_RT pa pb ga))) ∧ (¬ ((I 18 (((I 17 2) : Int32).toNatClampNeg)) = x1) → Q (some (.int 0)) (hp I J (pm_RT pa pb ga))))))) : Px (k + 1) 176 m_Ta_takes 4 [.ref 17, .int x1] [.int s0] (hp I J (pm_RT pa pb ga)) Q := by
  refine x_b 7 rfl rfl rfl (fun c => ?_) (fun c => ?_)
  · have h := h.1 c
    refine z_k 21 0 rfl (by decide) rfl ?_
    exact x_ri rfl (Or.inr ⟨rfl, Or.inl rfl⟩) h
  · have h := h.2 c
    refine x_l 8 rfl rfl rfl ?_
    refine z_gf 11 (.ref 18) rfl ⟨rfl, rfl, rfl⟩ rfl rfl ?_
    refine x_l 12 rfl rfl rfl ?_
    refine z_gf 15 (.int (I 17 2)) rfl ⟨rfl, rfl, rfl⟩ rfl rfl ?_
    have h1 := h.1
    have h := h.2
    refine z_il 16 1600 rfl ⟨rfl, rfl, rfl⟩ rfl h1 rfl ?_
    refine x_l 17 rfl rfl rfl ?_
    refine x_b 20 rfl rfl rfl (fun c => ?_) (fun c => ?_)
    · have h := h.1 c
      refine x_l 23 rfl rfl rfl ?_
      refine x_s 24 rfl rfl rfl ?_
      refine z_gf 27 (.int (I 17 2)) rfl ⟨rfl, rfl, rfl⟩ rfl rfl ?_
      refine z_k 28 1 rfl (by decide) rfl ?_
      refine x_s 29 rfl rfl rfl ?_
      refine z_pi 32 rfl (Or.inl rfl) rfl (fun z => by cases z) ⟨rfl, rfl, rfl⟩ rfl ?_
      refine z_k 33 1 rfl (by decide) rfl ?_
      exact x_ri rfl (Or.inr ⟨rfl, Or.inr rfl⟩) h
    · have h := h.2 c
      refine z_k 21 0 rfl (by decide) rfl ?_
      exact x_ri rfl (Or.inr ⟨rfl, Or.inl rfl⟩) h

theorem bk_Ta_hasMore_0 {k : Nat} {pa pb : Nat} {ga : Nat → Nat} {I : pm_II} {J : pm_JJ} {Q : Option Value → pm_H → Prop} (h : ((¬ (I 17 4) = (-1) → Q (some (.int 0)) (hp I J (pm_RT pa pb ga))) ∧ (¬ (¬ (I 17 4) = (-1)) → (((I 17 1) ≤ (I 17 2) → Q (some (.int 0)) (hp I J (pm_RT pa pb ga))) ∧ (¬ ((I 17 1) ≤ (I 17 2)) → Q (some (.int 1)) (hp I J (pm_RT pa pb ga))))))) : Px k 176 m_Ta_hasMore 0 [.ref 17] [] (hp I J (pm_RT pa pb ga)) Q := by
  refine x_l 1 rfl rfl rfl ?_
  refine z_gf 4 (.int (I 17 4)) rfl ⟨rfl, rfl, rfl⟩ rfl rfl ?_
  refine z_k 5 (-1) rfl (by decide) rfl ?_
  refine x_b 8 rfl rfl rfl (fun c => ?_) (fun c => ?_)
  · have h := h.1 c
    refine z_k 24 0 rfl (by decide) rfl ?_
    exact x_ri rfl (Or.inr ⟨rfl, Or.inl rfl⟩) h
  · have h := h.2 c
    refine x_l 9 rfl rfl rfl ?_
    refine z_gf 12 (.int (I 17 2)) rfl ⟨rfl, rfl, rfl⟩ rfl rfl ?_
    refine x_l 13 rfl rfl rfl ?_
    refine z_gf 16 (.int (I 17 1)) rfl ⟨rfl, rfl, rfl⟩ rfl rfl ?_
    refine x_b 19 rfl rfl rfl (fun c => ?_) (fun c => ?_)
    · have h := h.1 c
      refine z_k 24 0 rfl (by decide) rfl ?_
      exact x_ri rfl (Or.inr ⟨rfl, Or.inl rfl⟩) h
    · have h := h.2 c
      refine z_k 20 1 rfl (by decide) rfl ?_
      refine x_g rfl ?_
      exact x_ri rfl (Or.inr ⟨rfl, Or.inr rfl⟩) h

theorem bk_Ta_readNumber_0 {k : Nat} {pa pb : Nat} {ga : Nat → Nat} {I : pm_II} {J : pm_JJ} {Q : Option Value → pm_H → Prop} {x1 : Int32} {x2 : Int32} (h : Px (k + 1) 176 m_Ta_readNumber 16 [.ref 17, .int x1, .int x2, .int 0, .int 0, .int 0] [] (hp (pm_up I 17 3 (I 17 2)) J (pm_RT pa pb ga)) Q) : Px (k + 1) 176 m_Ta_readNumber 0 [.ref 17, .int x1, .int x2, .null, .null, .null] [] (hp I J (pm_RT pa pb ga)) Q := by
  refine x_l 1 rfl rfl rfl ?_
  refine x_l 2 rfl rfl rfl ?_
  refine z_gf 5 (.int (I 17 2)) rfl ⟨rfl, rfl, rfl⟩ rfl rfl ?_
  refine z_pi 8 rfl (Or.inl rfl) rfl (fun z => by cases z) ⟨rfl, rfl, rfl⟩ rfl ?_
  refine z_k 9 0 rfl (by decide) rfl ?_
  refine x_t 10 rfl rfl rfl ?_
  refine z_k 11 0 rfl (by decide) rfl ?_
  refine x_t 13 rfl rfl rfl ?_
  refine z_k 14 0 rfl (by decide) rfl ?_
  refine x_t 16 rfl rfl rfl ?_
  exact h

theorem bk_Ta_readNumber_16 {k : Nat} {pa pb : Nat} {ga : Nat → Nat} {I : pm_II} {J : pm_JJ} {Q : Option Value → pm_H → Prop} {x1 : Int32} {x2 : Int32} {x3 : Int32} {x4 : Int32} {x5 : Int32} (h : ((6 ≤ x4 → Px (k + 1) 176 m_Ta_readNumber 78 [.ref 17, .int x1, .int x2, .int x3, .int x4, .int x5] [] (hp I J (pm_RT pa pb ga)) Q) ∧ (¬ (6 ≤ x4) → ((¬ x5 = 0 → Px (k + 1) 176 m_Ta_readNumber 78 [.ref 17, .int x1, .int x2, .int x3, .int x4, .int x5] [] (hp I J (pm_RT pa pb ga)) Q) ∧ (¬ (¬ x5 = 0) → Px k 176 m_Ta_next 0 [.ref 17] [] (hp I J (pm_RT pa pb ga)) (fun r h' => h'.1 = 176 ∧ Px (k + 1) 176 m_Ta_readNumber 32 [.ref 17, .int x1, .int x2, .int x3, .int x4, .int x5] (r.toList ++ []) h' Q)))))) : Px (k + 1) 176 m_Ta_readNumber 16 [.ref 17, .int x1, .int x2, .int x3, .int x4, .int x5] [] (hp I J (pm_RT pa pb ga)) Q := by
  refine x_l 18 rfl rfl rfl ?_
  refine z_k 20 6 rfl (by decide) rfl ?_
  refine x_b 23 rfl rfl rfl (fun c => ?_) (fun c => ?_)
  · have h := h.1 c
    exact h
  · have h := h.2 c
    refine x_l 25 rfl rfl rfl ?_
    refine x_b 28 rfl rfl rfl (fun c => ?_) (fun c => ?_)
    · have h := h.1 c
      exact h
    · have h := h.2 c
      refine x_l 29 rfl rfl rfl ?_
      exact z_cv (As := []) (rest := []) (b := 17) rfl at_Ta_next rfl rfl (Nat.le_of_ble_eq_true rfl) (Nat.le_of_ble_eq_true rfl) ⟨rfl, rfl, rfl⟩ (by decide) rfl h

theorem bk_Ta_readNumber_32 {k : Nat} {pa pb : Nat} {ga : Nat → Nat} {I : pm_II} {J : pm_JJ} {Q : Option Value → pm_H → Prop} {x1 : Int32} {x2 : Int32} {x3 : Int32} {x4 : Int32} {x5 : Int32} {s0 : Int32} (h : Px k 176 m_Ta_isDigit 0 [.int s0] [] (hp I J (pm_RT pa pb ga)) (fun r h' => h'.1 = 176 ∧ Px (k + 1) 176 m_Ta_readNumber 35 [.ref 17, .int x1, .int x2, .int x3, .int x4, .int x5] (r.toList ++ []) h' Q)) : Px (k + 1) 176 m_Ta_readNumber 32 [.ref 17, .int x1, .int x2, .int x3, .int x4, .int x5] [.int s0] (hp I J (pm_RT pa pb ga)) Q := by
  exact z_cs (As := [.int s0]) (rest := []) rfl at_Ta_isDigit rfl rfl (Nat.le_of_ble_eq_true rfl) (Nat.le_of_ble_eq_true rfl) rfl h

theorem bk_Ta_readNumber_35 {k : Nat} {pa pb : Nat} {ga : Nat → Nat} {I : pm_II} {J : pm_JJ} {Q : Option Value → pm_H → Prop} {x1 : Int32} {x2 : Int32} {x3 : Int32} {x4 : Int32} {x5 : Int32} {s0 : Int32} (h : ((s0 = 0 → Px (k + 1) 176 m_Ta_readNumber 78 [.ref 17, .int x1, .int x2, .int x3, .int x4, .int x5] [] (hp I J (pm_RT pa pb ga)) Q) ∧ (¬ (s0 = 0) → Px k 176 m_Ta_next 0 [.ref 17] [] (hp I J (pm_RT pa pb ga)) (fun r h' => h'.1 = 176 ∧ Px (k + 1) 176 m_Ta_readNumber 46 [.ref 17, .int x1, .int x2, .int x3, .int x4, .int x5] (r.toList ++ [.int (x3 * (10 : Int32))]) h' Q)))) : Px (k + 1) 176 m_Ta_readNumber 35 [.ref 17, .int x1, .int x2, .int x3, .int x4, .int x5] [.int s0] (hp I J (pm_RT pa pb ga)) Q := by
  refine x_b 38 rfl rfl rfl (fun c => ?_) (fun c => ?_)
  · have h := h.1 c
    exact h
  · have h := h.2 c
    refine x_l 39 rfl rfl rfl ?_
    refine z_k 41 10 rfl (by decide) rfl ?_
    refine x_s 42 rfl rfl rfl ?_
    refine x_l 43 rfl rfl rfl ?_
    exact z_cv (As := []) (rest := [.int (x3 * (10 : Int32))]) (b := 17) rfl at_Ta_next rfl rfl (Nat.le_of_ble_eq_true rfl) (Nat.le_of_ble_eq_true rfl) ⟨rfl, rfl, rfl⟩ (by decide) rfl h

theorem bk_Ta_readNumber_46 {k : Nat} {pa pb : Nat} {ga : Nat → Nat} {I : pm_II} {J : pm_JJ} {Q : Option Value → pm_H → Prop} {x1 : Int32} {x2 : Int32} {x3 : Int32} {x4 : Int32} {x5 : Int32} {s0 : Int32} {s1 : Int32} (h : ((¬ ((s0 + s1) - (48 : Int32)) = 0 → Px (k + 1) 176 m_Ta_readNumber 16 [.ref 17, .int x1, .int x2, .int ((s0 + s1) - (48 : Int32)), .int (x4 + Int32.ofInt 1), .int 0] [] (hp (pm_up I 17 2 ((I 17 2) + (1 : Int32))) J (pm_RT pa pb ga)) Q) ∧ (¬ (¬ ((s0 + s1) - (48 : Int32)) = 0) → Px (k + 1) 176 m_Ta_readNumber 16 [.ref 17, .int x1, .int x2, .int ((s0 + s1) - (48 : Int32)), .int (x4 + Int32.ofInt 1), .int 1] [] (hp (pm_up I 17 2 ((I 17 2) + (1 : Int32))) J (pm_RT pa pb ga)) Q))) : Px (k + 1) 176 m_Ta_readNumber 46 [.ref 17, .int x1, .int x2, .int x3, .int x4, .int x5] [.int s1, .int s0] (hp I J (pm_RT pa pb ga)) Q := by
  refine x_s 47 rfl rfl rfl ?_
  refine z_k 49 48 rfl (by decide) rfl ?_
  refine x_s 50 rfl rfl rfl ?_
  refine x_t 51 rfl rfl rfl ?_
  refine x_l 52 rfl rfl rfl ?_
  refine x_b 55 rfl rfl rfl (fun c => ?_) (fun c => ?_)
  · have h := h.1 c
    refine z_k 60 0 rfl (by decide) rfl ?_
    refine x_t 62 rfl rfl rfl ?_
    refine x_l 63 rfl rfl rfl ?_
    refine x_s 64 rfl rfl rfl ?_
    refine z_gf 67 (.int (I 17 2)) rfl ⟨rfl, rfl, rfl⟩ rfl rfl ?_
    refine z_k 68 1 rfl (by decide) rfl ?_
    refine x_s 69 rfl rfl rfl ?_
    refine z_pi 72 rfl (Or.inl rfl) rfl (fun z => by cases z) ⟨rfl, rfl, rfl⟩ rfl ?_
    refine x_t 75 rfl rfl rfl ?_
    refine x_g rfl ?_
    exact h
  · have h := h.2 c
    refine z_k 56 1 rfl (by decide) rfl ?_
    refine x_g rfl ?_
    refine x_t 62 rfl rfl rfl ?_
    refine x_l 63 rfl rfl rfl ?_
    refine x_s 64 rfl rfl rfl ?_
    refine z_gf 67 (.int (I 17 2)) rfl ⟨rfl, rfl, rfl⟩ rfl rfl ?_
    refine z_k 68 1 rfl (by decide) rfl ?_
    refine x_s 69 rfl rfl rfl ?_
    refine z_pi 72 rfl (Or.inl rfl) rfl (fun z => by cases z) ⟨rfl, rfl, rfl⟩ rfl ?_
    refine x_t 75 rfl rfl rfl ?_
    refine x_g rfl ?_
    exact h

theorem bk_Ta_readNumber_78 {k : Nat} {pa pb : Nat} {ga : Nat → Nat} {I : pm_II} {J : pm_JJ} {Q : Option Value → pm_H → Prop} {x1 : Int32} {x2 : Int32} {x3 : Int32} {x4 : Int32} {x5 : Int32} (h : ((x4 = 0 → Px k 176 m_Ta_blame 0 [.ref 17, .int (I 17 2)] [] (hp I J (pm_RT pa pb ga)) (fun r h' => h'.1 = 176 ∧ Px (k + 1) 176 m_Ta_readNumber 101 [.ref 17, .int x1, .int x2, .int x3, .int x4, .int x5] (r.toList ++ []) h' Q)) ∧ (¬ (x4 = 0) → Px k 176 m_Ta_next 0 [.ref 17] [] (hp I J (pm_RT pa pb ga)) (fun r h' => h'.1 = 176 ∧ Px (k + 1) 176 m_Ta_readNumber 87 [.ref 17, .int x1, .int x2, .int x3, .int x4, .int x5] (r.toList ++ []) h' Q)))) : Px (k + 1) 176 m_Ta_readNumber 78 [.ref 17, .int x1, .int x2, .int x3, .int x4, .int x5] [] (hp I J (pm_RT pa pb ga)) Q := by
  refine x_l 80 rfl rfl rfl ?_
  refine x_b 83 rfl rfl rfl (fun c => ?_) (fun c => ?_)
  · have h := h.1 c
    refine x_l 94 rfl rfl rfl ?_
    refine x_l 95 rfl rfl rfl ?_
    refine z_gf 98 (.int (I 17 2)) rfl ⟨rfl, rfl, rfl⟩ rfl rfl ?_
    exact z_cv (As := [.int (I 17 2)]) (rest := []) (b := 17) rfl at_Ta_blame rfl rfl (Nat.le_of_ble_eq_true rfl) (Nat.le_of_ble_eq_true rfl) ⟨rfl, rfl, rfl⟩ (by decide) rfl h
  · have h := h.2 c
    refine x_l 84 rfl rfl rfl ?_
    exact z_cv (As := []) (rest := []) (b := 17) rfl at_Ta_next rfl rfl (Nat.le_of_ble_eq_true rfl) (Nat.le_of_ble_eq_true rfl) ⟨rfl, rfl, rfl⟩ (by decide) rfl h

theorem bk_Ta_readNumber_87 {k : Nat} {pa pb : Nat} {ga : Nat → Nat} {I : pm_II} {J : pm_JJ} {Q : Option Value → pm_H → Prop} {x1 : Int32} {x2 : Int32} {x3 : Int32} {x4 : Int32} {x5 : Int32} {s0 : Int32} (h : Px k 176 m_Ta_isDigit 0 [.int s0] [] (hp I J (pm_RT pa pb ga)) (fun r h' => h'.1 = 176 ∧ Px (k + 1) 176 m_Ta_readNumber 90 [.ref 17, .int x1, .int x2, .int x3, .int x4, .int x5] (r.toList ++ []) h' Q)) : Px (k + 1) 176 m_Ta_readNumber 87 [.ref 17, .int x1, .int x2, .int x3, .int x4, .int x5] [.int s0] (hp I J (pm_RT pa pb ga)) Q := by
  exact z_cs (As := [.int s0]) (rest := []) rfl at_Ta_isDigit rfl rfl (Nat.le_of_ble_eq_true rfl) (Nat.le_of_ble_eq_true rfl) rfl h

theorem bk_Ta_readNumber_90 {k : Nat} {pa pb : Nat} {ga : Nat → Nat} {I : pm_II} {J : pm_JJ} {Q : Option Value → pm_H → Prop} {x1 : Int32} {x2 : Int32} {x3 : Int32} {x4 : Int32} {x5 : Int32} {s0 : Int32} (h : ((s0 = 0 → Px (k + 1) 176 m_Ta_readNumber 101 [.ref 17, .int x1, .int x2, .int x3, .int x4, .int x5] [] (hp I J (pm_RT pa pb ga)) Q) ∧ (¬ (s0 = 0) → Px k 176 m_Ta_blame 0 [.ref 17, .int (I 17 2)] [] (hp I J (pm_RT pa pb ga)) (fun r h' => h'.1 = 176 ∧ Px (k + 1) 176 m_Ta_readNumber 101 [.ref 17, .int x1, .int x2, .int x3, .int x4, .int x5] (r.toList ++ []) h' Q)))) : Px (k + 1) 176 m_Ta_readNumber 90 [.ref 17, .int x1, .int x2, .int x3, .int x4, .int x5] [.int s0] (hp I J (pm_RT pa pb ga)) Q := by
  refine x_b 93 rfl rfl rfl (fun c => ?_) (fun c => ?_)
  · have h := h.1 c
    exact h
  · have h := h.2 c
    refine x_l 94 rfl rfl rfl ?_
    refine x_l 95 rfl rfl rfl ?_
    refine z_gf 98 (.int (I 17 2)) rfl ⟨rfl, rfl, rfl⟩ rfl rfl ?_
    exact z_cv (As := [.int (I 17 2)]) (rest := []) (b := 17) rfl at_Ta_blame rfl rfl (Nat.le_of_ble_eq_true rfl) (Nat.le_of_ble_eq_true rfl) ⟨rfl, rfl, rfl⟩ (by decide) rfl h

theorem bk_Ta_readNumber_101 {k : Nat} {pa pb : Nat} {ga : Nat → Nat} {I : pm_II} {J : pm_JJ} {Q : Option Value → pm_H → Prop} {x1 : Int32} {x2 : Int32} {x3 : Int32} {x4 : Int32} {x5 : Int32} (h : ((x3 < x1 → Px k 176 m_Ta_blame 0 [.ref 17, .int (I 17 3)] [] (hp I J (pm_RT pa pb ga)) (fun r h' => h'.1 = 176 ∧ Px (k + 1) 176 m_Ta_readNumber 119 [.ref 17, .int x1, .int x2, .int x3, .int x4, .int x5] (r.toList ++ []) h' Q)) ∧ (¬ (x3 < x1) → ((x3 ≤ x2 → Px (k + 1) 176 m_Ta_readNumber 119 [.ref 17, .int x1, .int x2, .int x3, .int x4, .int x5] [] (hp I J (pm_RT pa pb ga)) Q) ∧ (¬ (x3 ≤ x2) → Px k 176 m_Ta_blame 0 [.ref 17, .int (I 17 3)] [] (hp I J (pm_RT pa pb ga)) (fun r h' => h'.1 = 176 ∧ Px (k + 1) 176 m_Ta_readNumber 119 [.ref 17, .int x1, .int x2, .int x3, .int x4, .int x5] (r.toList ++ []) h' Q)))))) : Px (k + 1) 176 m_Ta_readNumber 101 [.ref 17, .int x1, .int x2, .int x3, .int x4, .int x5] [] (hp I J (pm_RT pa pb ga)) Q := by
  refine x_l 102 rfl rfl rfl ?_
  refine x_l 103 rfl rfl rfl ?_
  refine x_b 106 rfl rfl rfl (fun c => ?_) (fun c => ?_)
  · have h := h.1 c
    refine x_l 112 rfl rfl rfl ?_
    refine x_l 113 rfl rfl rfl ?_
    refine z_gf 116 (.int (I 17 3)) rfl ⟨rfl, rfl, rfl⟩ rfl rfl ?_
    exact z_cv (As := [.int (I 17 3)]) (rest := []) (b := 17) rfl at_Ta_blame rfl rfl (Nat.le_of_ble_eq_true rfl) (Nat.le_of_ble_eq_true rfl) ⟨rfl, rfl, rfl⟩ (by decide) rfl h
  · have h := h.2 c
    refine x_l 107 rfl rfl rfl ?_
    refine x_l 108 rfl rfl rfl ?_
    refine x_b 111 rfl rfl rfl (fun c => ?_) (fun c => ?_)
    · have h := h.1 c
      exact h
    · have h := h.2 c
      refine x_l 112 rfl rfl rfl ?_
      refine x_l 113 rfl rfl rfl ?_
      refine z_gf 116 (.int (I 17 3)) rfl ⟨rfl, rfl, rfl⟩ rfl rfl ?_
      exact z_cv (As := [.int (I 17 3)]) (rest := []) (b := 17) rfl at_Ta_blame rfl rfl (Nat.le_of_ble_eq_true rfl) (Nat.le_of_ble_eq_true rfl) ⟨rfl, rfl, rfl⟩ (by decide) rfl h

theorem bk_Ta_readNumber_119 {k : Nat} {pa pb : Nat} {ga : Nat → Nat} {I : pm_II} {J : pm_JJ} {Q : Option Value → pm_H → Prop} {x1 : Int32} {x2 : Int32} {x3 : Int32} {x4 : Int32} {x5 : Int32} (h : Q (some (.int x3)) (hp I J (pm_RT pa pb ga))) : Px (k + 1) 176 m_Ta_readNumber 119 [.ref 17, .int x1, .int x2, .int x3, .int x4, .int x5] [] (hp I J (pm_RT pa pb ga)) Q := by
  refine x_l 120 rfl rfl rfl ?_
  exact x_ri rfl (Or.inl rfl) h

theorem bk_Jm_min_II_0 {k : Nat} {pa pb : Nat} {ga : Nat → Nat} {I : pm_II} {J : pm_JJ} {Q : Option Value → pm_H → Prop} {x0 : Int32} {x1 : Int32} (h : ((x1 < x0 → Q (some (.int x1)) (hp I J (pm_RT pa pb ga))) ∧ (¬ (x1 < x0) → Q (some (.int x0)) (hp I J (pm_RT pa pb ga))))) : Px k 176 m_Jm_min_II 0 [.int x0, .int x1] [] (hp I J (pm_RT pa pb ga)) Q := by
  refine x_l 1 rfl rfl rfl ?_
  refine x_l 2 rfl rfl rfl ?_
  refine x_b 5 rfl rfl rfl (fun c => ?_) (fun c => ?_)
  · have h := h.1 c
    refine x_l 10 rfl rfl rfl ?_
    exact x_ri rfl (Or.inl rfl) h
  · have h := h.2 c
    refine x_l 6 rfl rfl rfl ?_
    refine x_g rfl ?_
    exact x_ri rfl (Or.inl rfl) h

theorem bk_Ta_finish_0 {k : Nat} {pa pb : Nat} {ga : Nat → Nat} {I : pm_II} {J : pm_JJ} {Q : Option Value → pm_H → Prop} (h : (((I 17 1) ≤ (I 17 2) → Px (k + 1) 176 m_Ta_finish 19 [.ref 17] [] (hp I J (pm_RT pa pb ga)) Q) ∧ (¬ ((I 17 1) ≤ (I 17 2)) → Px k 176 m_Ta_blame 0 [.ref 17, .int (I 17 2)] [] (hp I J (pm_RT pa pb ga)) (fun r h' => h'.1 = 176 ∧ Px (k + 1) 176 m_Ta_finish 19 [.ref 17] (r.toList ++ []) h' Q)))) : Px (k + 1) 176 m_Ta_finish 0 [.ref 17] [] (hp I J (pm_RT pa pb ga)) Q := by
  refine x_l 1 rfl rfl rfl ?_
  refine z_gf 4 (.int (I 17 2)) rfl ⟨rfl, rfl, rfl⟩ rfl rfl ?_
  refine x_l 5 rfl rfl rfl ?_
  refine z_gf 8 (.int (I 17 1)) rfl ⟨rfl, rfl, rfl⟩ rfl rfl ?_
  refine x_b 11 rfl rfl rfl (fun c => ?_) (fun c => ?_)
  · have h := h.1 c
    exact h
  · have h := h.2 c
    refine x_l 12 rfl rfl rfl ?_
    refine x_l 13 rfl rfl rfl ?_
    refine z_gf 16 (.int (I 17 2)) rfl ⟨rfl, rfl, rfl⟩ rfl rfl ?_
    exact z_cv (As := [.int (I 17 2)]) (rest := []) (b := 17) rfl at_Ta_blame rfl rfl (Nat.le_of_ble_eq_true rfl) (Nat.le_of_ble_eq_true rfl) ⟨rfl, rfl, rfl⟩ (by decide) rfl h

theorem bk_Ta_finish_19 {k : Nat} {pa pb : Nat} {ga : Nat → Nat} {I : pm_II} {J : pm_JJ} {Q : Option Value → pm_H → Prop} (h : Q none (hp I J (pm_RT pa pb ga))) : Px (k + 1) 176 m_Ta_finish 19 [.ref 17] [] (hp I J (pm_RT pa pb ga)) Q := by
  exact x_rv rfl rfl h

theorem bk_Ta_isRight_0 {k : Nat} {pa pb : Nat} {ga : Nat → Nat} {I : pm_II} {J : pm_JJ} {Q : Option Value → pm_H → Prop} (h : ((¬ (I 17 4) = (-1) → Q (some (.int 0)) (hp I J (pm_RT pa pb ga))) ∧ (¬ (¬ (I 17 4) = (-1)) → Q (some (.int 1)) (hp I J (pm_RT pa pb ga))))) : Px k 176 m_Ta_isRight 0 [.ref 17] [] (hp I J (pm_RT pa pb ga)) Q := by
  refine x_l 1 rfl rfl rfl ?_
  refine z_gf 4 (.int (I 17 4)) rfl ⟨rfl, rfl, rfl⟩ rfl rfl ?_
  refine z_k 5 (-1) rfl (by decide) rfl ?_
  refine x_b 8 rfl rfl rfl (fun c => ?_) (fun c => ?_)
  · have h := h.1 c
    refine z_k 13 0 rfl (by decide) rfl ?_
    exact x_ri rfl (Or.inr ⟨rfl, Or.inl rfl⟩) h
  · have h := h.2 c
    refine z_k 9 1 rfl (by decide) rfl ?_
    refine x_g rfl ?_
    exact x_ri rfl (Or.inr ⟨rfl, Or.inr rfl⟩) h

theorem bk_Jm_max_0 {k : Nat} {pa pb : Nat} {ga : Nat → Nat} {I : pm_II} {J : pm_JJ} {Q : Option Value → pm_H → Prop} {x0 : Int32} {x1 : Int32} (h : ((x0 < x1 → Q (some (.int x1)) (hp I J (pm_RT pa pb ga))) ∧ (¬ (x0 < x1) → Q (some (.int x0)) (hp I J (pm_RT pa pb ga))))) : Px k 176 m_Jm_max 0 [.int x0, .int x1] [] (hp I J (pm_RT pa pb ga)) Q := by
  refine x_l 1 rfl rfl rfl ?_
  refine x_l 2 rfl rfl rfl ?_
  refine x_b 5 rfl rfl rfl (fun c => ?_) (fun c => ?_)
  · have h := h.1 c
    refine x_l 10 rfl rfl rfl ?_
    exact x_ri rfl (Or.inl rfl) h
  · have h := h.2 c
    refine x_l 6 rfl rfl rfl ?_
    refine x_g rfl ?_
    exact x_ri rfl (Or.inl rfl) h

theorem bk_Ta_close_0 {k : Nat} {pa pb : Nat} {ga : Nat → Nat} {I : pm_II} {J : pm_JJ} {Q : Option Value → pm_H → Prop} {x1 : Int32} (h : Px k 176 m_Ta_isRight 0 [.ref 17] [] (hp (pm_up I 17 1 0) J (pm_RT pa pb ga)) (fun r h' => h'.1 = 176 ∧ Px (k + 1) 176 m_Ta_close 9 [.ref 17, .int x1] (r.toList ++ []) h' Q)) : Px (k + 1) 176 m_Ta_close 0 [.ref 17, .int x1] [] (hp I J (pm_RT pa pb ga)) Q := by
  refine x_l 1 rfl rfl rfl ?_
  refine z_k 2 0 rfl (by decide) rfl ?_
  refine z_pi 5 rfl (Or.inl rfl) rfl (fun z => by cases z) ⟨rfl, rfl, rfl⟩ rfl ?_
  refine x_l 6 rfl rfl rfl ?_
  exact z_cv (As := []) (rest := []) (b := 17) rfl at_Ta_isRight rfl rfl (Nat.le_of_ble_eq_true rfl) (Nat.le_of_ble_eq_true rfl) ⟨rfl, rfl, rfl⟩ (by decide) rfl h

theorem bk_Ta_close_9 {k : Nat} {pa pb : Nat} {ga : Nat → Nat} {I : pm_II} {J : pm_JJ} {Q : Option Value → pm_H → Prop} {x1 : Int32} {s0 : Int32} (h : ((s0 = 0 → Q (some (.int (((-1000) : Int32) - (I 17 4)))) (hp I J (pm_RT pa pb ga))) ∧ (¬ (s0 = 0) → Q (some (.int x1)) (hp I J (pm_RT pa pb ga))))) : Px (k + 1) 176 m_Ta_close 9 [.ref 17, .int x1] [.int s0] (hp I J (pm_RT pa pb ga)) Q := by
  refine x_b 12 rfl rfl rfl (fun c => ?_) (fun c => ?_)
  · have h := h.1 c
    refine z_k 19 (-1000) rfl (by decide) rfl ?_
    refine x_l 20 rfl rfl rfl ?_
    refine z_gf 23 (.int (I 17 4)) rfl ⟨rfl, rfl, rfl⟩ rfl rfl ?_
    refine x_s 24 rfl rfl rfl ?_
    exact x_ri rfl (Or.inl rfl) h
  · have h := h.2 c
    refine x_l 13 rfl rfl rfl ?_
    refine x_g rfl ?_
    exact x_ri rfl (Or.inl rfl) h

theorem bk_Ta_place_0 {k : Nat} {pa pb : Nat} {ga : Nat → Nat} {I : pm_II} {J : pm_JJ} {Q : Option Value → pm_H → Prop} (h : Q (some (.int (I 17 2))) (hp I J (pm_RT pa pb ga))) : Px k 176 m_Ta_place 0 [.ref 17] [] (hp I J (pm_RT pa pb ga)) Q := by
  refine x_l 1 rfl rfl rfl ?_
  refine z_gf 4 (.int (I 17 2)) rfl ⟨rfl, rfl, rfl⟩ rfl rfl ?_
  exact x_ri rfl (Or.inl rfl) h

theorem bk_Ta_readEither_0 {k : Nat} {pa pb : Nat} {ga : Nat → Nat} {I : pm_II} {J : pm_JJ} {Q : Option Value → pm_H → Prop} {a1 : Nat} {a2 : Nat} (h : Px k 176 m_Ta_readLetters 0 [.ref 17, .int 1600, .int 1, .null] [] (hp I J (pm_RT pa pb ga)) (fun r h' => h'.1 = 176 ∧ Px (k + 1) 176 m_Ta_readEither 8 [.ref 17, .ref a1, .ref a2, .null] (r.toList ++ []) h' Q)) : Px (k + 1) 176 m_Ta_readEither 0 [.ref 17, .ref a1, .ref a2, .null] [] (hp I J (pm_RT pa pb ga)) Q := by
  refine x_l 1 rfl rfl rfl ?_
  refine z_k 4 1600 rfl (by decide) rfl ?_
  refine z_k 5 1 rfl (by decide) rfl ?_
  exact z_cv (As := [.int 1600, .int 1]) (rest := []) (b := 17) rfl at_Ta_readLetters rfl rfl (Nat.le_of_ble_eq_true rfl) (Nat.le_of_ble_eq_true rfl) ⟨rfl, rfl, rfl⟩ (by decide) rfl h

theorem bk_Ta_readEither_8 {k : Nat} {pa pb : Nat} {ga : Nat → Nat} {I : pm_II} {J : pm_JJ} {Q : Option Value → pm_H → Prop} {a1 : Nat} {a2 : Nat} {s0 : Int32} (h : Px k 176 m_Ta_wordIs 0 [.ref 17, .ref a2, .null] [] (hp I J (pm_RT pa pb ga)) (fun r h' => h'.1 = 176 ∧ Px (k + 1) 176 m_Ta_readEither 14 [.ref 17, .ref a1, .ref a2, .null] (r.toList ++ []) h' Q)) : Px (k + 1) 176 m_Ta_readEither 8 [.ref 17, .ref a1, .ref a2, .null] [.int s0] (hp I J (pm_RT pa pb ga)) Q := by
  refine x_s 9 rfl rfl rfl ?_
  refine x_l 10 rfl rfl rfl ?_
  refine x_l 11 rfl rfl rfl ?_
  exact z_cv (As := [.ref a2]) (rest := []) (b := 17) rfl at_Ta_wordIs rfl rfl (Nat.le_of_ble_eq_true rfl) (Nat.le_of_ble_eq_true rfl) ⟨rfl, rfl, rfl⟩ (by decide) rfl h

theorem bk_Ta_readEither_14 {k : Nat} {pa pb : Nat} {ga : Nat → Nat} {I : pm_II} {J : pm_JJ} {Q : Option Value → pm_H → Prop} {a1 : Nat} {a2 : Nat} {s0 : Int32} (h : ((¬ s0 = 0 → Px (k + 1) 176 m_Ta_readEither 31 [.ref 17, .ref a1, .ref a2, .int s0] [] (hp I J (pm_RT pa pb ga)) Q) ∧ (¬ (¬ s0 = 0) → Px k 176 m_Ta_wordIs 0 [.ref 17, .ref a1, .null] [] (hp I J (pm_RT pa pb ga)) (fun r h' => h'.1 = 176 ∧ Px (k + 1) 176 m_Ta_readEither 24 [.ref 17, .ref a1, .ref a2, .int s0] (r.toList ++ []) h' Q)))) : Px (k + 1) 176 m_Ta_readEither 14 [.ref 17, .ref a1, .ref a2, .null] [.int s0] (hp I J (pm_RT pa pb ga)) Q := by
  refine x_t 15 rfl rfl rfl ?_
  refine x_l 16 rfl rfl rfl ?_
  refine x_b 19 rfl rfl rfl (fun c => ?_) (fun c => ?_)
  · have h := h.1 c
    exact h
  · have h := h.2 c
    refine x_l 20 rfl rfl rfl ?_
    refine x_l 21 rfl rfl rfl ?_
    exact z_cv (As := [.ref a1]) (rest := []) (b := 17) rfl at_Ta_wordIs rfl rfl (Nat.le_of_ble_eq_true rfl) (Nat.le_of_ble_eq_true rfl) ⟨rfl, rfl, rfl⟩ (by decide) rfl h

theorem bk_Ta_readEither_24 {k : Nat} {pa pb : Nat} {ga : Nat → Nat} {I : pm_II} {J : pm_JJ} {Q : Option Value → pm_H → Prop} {a1 : Nat} {a2 : Nat} {x3 : Int32} {s0 : Int32} (h : ((¬ s0 = 0 → Px (k + 1) 176 m_Ta_readEither 31 [.ref 17, .ref a1, .ref a2, .int x3] [] (hp I J (pm_RT pa pb ga)) Q) ∧ (¬ (¬ s0 = 0) → Px k 176 m_Ta_blameToken 0 [.ref 17] [] (hp I J (pm_RT pa pb ga)) (fun r h' => h'.1 = 176 ∧ Px (k + 1) 176 m_Ta_readEither 31 [.ref 17, .ref a1, .ref a2, .int x3] (r.toList ++ []) h' Q)))) : Px (k + 1) 176 m_Ta_readEither 24 [.ref 17, .ref a1, .ref a2, .int x3] [.int s0] (hp I J (pm_RT pa pb ga)) Q := by
  refine x_b 27 rfl rfl rfl (fun c => ?_) (fun c => ?_)
  · have h := h.1 c
    exact h
  · have h := h.2 c
    refine x_l 28 rfl rfl rfl ?_
    exact z_cv (As := []) (rest := []) (b := 17) rfl at_Ta_blameToken rfl rfl (Nat.le_of_ble_eq_true rfl) (Nat.le_of_ble_eq_true rfl) ⟨rfl, rfl, rfl⟩ (by decide) rfl h

theorem bk_Ta_readEither_31 {k : Nat} {pa pb : Nat} {ga : Nat → Nat} {I : pm_II} {J : pm_JJ} {Q : Option Value → pm_H → Prop} {a1 : Nat} {a2 : Nat} {x3 : Int32} (h : ((x3 = 0 → Q (some (.int 0)) (hp I J (pm_RT pa pb ga))) ∧ (¬ (x3 = 0) → Q (some (.int 1)) (hp I J (pm_RT pa pb ga))))) : Px (k + 1) 176 m_Ta_readEither 31 [.ref 17, .ref a1, .ref a2, .int x3] [] (hp I J (pm_RT pa pb ga)) Q := by
  refine x_l 32 rfl rfl rfl ?_
  refine x_b 35 rfl rfl rfl (fun c => ?_) (fun c => ?_)
  · have h := h.1 c
    refine z_k 40 0 rfl (by decide) rfl ?_
    exact x_ri rfl (Or.inl rfl) h
  · have h := h.2 c
    refine z_k 36 1 rfl (by decide) rfl ?_
    refine x_g rfl ?_
    exact x_ri rfl (Or.inl rfl) h

theorem bk_Jm_floorDiv_II_0 {k : Nat} {pa pb : Nat} {ga : Nat → Nat} {I : pm_II} {J : pm_JJ} {Q : Option Value → pm_H → Prop} {x0 : Int32} {x1 : Int32} (h : ¬ x1 = 0 ∧ ((0 ≤ (x0 ^^^ x1) → Q (some (.int (x0 / x1))) (hp I J (pm_RT pa pb ga))) ∧ (¬ (0 ≤ (x0 ^^^ x1)) → ((((x0 / x1) * x1) = x0 → Q (some (.int (x0 / x1))) (hp I J (pm_RT pa pb ga))) ∧ (¬ (((x0 / x1) * x1) = x0) → Q (some (.int ((x0 / x1) - (1 : Int32)))) (hp I J (pm_RT pa pb ga))))))) : Px k 176 m_Jm_floorDiv_II 0 [.int x0, .int x1, .null] [] (hp I J (pm_RT pa pb ga)) Q := by
  refine x_l 1 rfl rfl rfl ?_
  refine x_l 2 rfl rfl rfl ?_
  have h0 := h.1
  have h := h.2
  refine x_dv 3 rfl h0 rfl ?_
  refine x_t 4 rfl rfl rfl ?_
  refine x_l 5 rfl rfl rfl ?_
  refine x_l 6 rfl rfl rfl ?_
  refine x_s 7 rfl rfl rfl ?_
  refine x_b 10 rfl rfl rfl (fun c => ?_) (fun c => ?_)
  · have h := h.1 c
    refine x_l 22 rfl rfl rfl ?_
    exact x_ri rfl (Or.inl rfl) h
  · have h := h.2 c
    refine x_l 11 rfl rfl rfl ?_
    refine x_l 12 rfl rfl rfl ?_
    refine x_s 13 rfl rfl rfl ?_
    refine x_l 14 rfl rfl rfl ?_
    refine x_b 17 rfl rfl rfl (fun c => ?_) (fun c => ?_)
    · have h := h.1 c
      refine x_l 22 rfl rfl rfl ?_
      exact x_ri rfl (Or.inl rfl) h
    · have h := h.2 c
      refine x_l 18 rfl rfl rfl ?_
      refine z_k 19 1 rfl (by decide) rfl ?_
      refine x_s 20 rfl rfl rfl ?_
      exact x_ri rfl (Or.inl rfl) h

theorem bk_Jm_abs_I_0 {k : Nat} {pa pb : Nat} {ga : Nat → Nat} {I : pm_II} {J : pm_JJ} {Q : Option Value → pm_H → Prop} {x0 : Int32} (h : ((0 ≤ x0 → Q (some (.int x0)) (hp I J (pm_RT pa pb ga))) ∧ (¬ (0 ≤ x0) → Q (some (.int (-x0))) (hp I J (pm_RT pa pb ga))))) : Px k 176 m_Jm_abs_I 0 [.int x0] [] (hp I J (pm_RT pa pb ga)) Q := by
  refine x_l 1 rfl rfl rfl ?_
  refine x_b 4 rfl rfl rfl (fun c => ?_) (fun c => ?_)
  · have h := h.1 c
    refine x_l 10 rfl rfl rfl ?_
    exact x_ri rfl (Or.inl rfl) h
  · have h := h.2 c
    refine x_l 5 rfl rfl rfl ?_
    refine x_s 6 rfl rfl rfl ?_
    refine x_g rfl ?_
    exact x_ri rfl (Or.inl rfl) h

theorem bk_Ji_bitCount_0 {k : Nat} {pa pb : Nat} {ga : Nat → Nat} {I : pm_II} {J : pm_JJ} {Q : Option Value → pm_H → Prop} {x0 : Int32} (h : Q (some (.int ((((((((x0 - (((x0).toUInt32 >>> (((1 : Int32)).toUInt32 &&& Int32.toUInt32 31)).toInt32 &&& (Int32.ofNat 1431655765))) &&& (Int32.ofNat 858993459)) + ((((x0 - (((x0).toUInt32 >>> (((1 : Int32)).toUInt32 &&& Int32.toUInt32 31)).toInt32 &&& (Int32.ofNat 1431655765)))).toUInt32 >>> (((2 : Int32)).toUInt32 &&& Int32.toUInt32 31)).toInt32 &&& (Int32.ofNat 858993459))) + (((((x0 - (((x0).toUInt32 >>> (((1 : Int32)).toUInt32 &&& Int32.toUInt32 31)).toInt32 &&& (Int32.ofNat 1431655765))) &&& (Int32.ofNat 858993459)) + ((((x0 - (((x0).toUInt32 >>> (((1 : Int32)).toUInt32 &&& Int32.toUInt32 31)).toInt32 &&& (Int32.ofNat 1431655765)))).toUInt32 >>> (((2 : Int32)).toUInt32 &&& Int32.toUInt32 31)).toInt32 &&& (Int32.ofNat 858993459)))).toUInt32 >>> (((4 : Int32)).toUInt32 &&& Int32.toUInt32 31)).toInt32) &&& (Int32.ofNat 252645135)) + (((((((x0 - (((x0).toUInt32 >>> (((1 : Int32)).toUInt32 &&& Int32.toUInt32 31)).toInt32 &&& (Int32.ofNat 1431655765))) &&& (Int32.ofNat 858993459)) + ((((x0 - (((x0).toUInt32 >>> (((1 : Int32)).toUInt32 &&& Int32.toUInt32 31)).toInt32 &&& (Int32.ofNat 1431655765)))).toUInt32 >>> (((2 : Int32)).toUInt32 &&& Int32.toUInt32 31)).toInt32 &&& (Int32.ofNat 858993459))) + (((((x0 - (((x0).toUInt32 >>> (((1 : Int32)).toUInt32 &&& Int32.toUInt32 31)).toInt32 &&& (Int32.ofNat 1431655765))) &&& (Int32.ofNat 858993459)) + ((((x0 - (((x0).toUInt32 >>> (((1 : Int32)).toUInt32 &&& Int32.toUInt32 31)).toInt32 &&& (Int32.ofNat 1431655765)))).toUInt32 >>> (((2 : Int32)).toUInt32 &&& Int32.toUInt32 31)).toInt32 &&& (Int32.ofNat 858993459)))).toUInt32 >>> (((4 : Int32)).toUInt32 &&& Int32.toUInt32 31)).toInt32) &&& (Int32.ofNat 252645135))).toUInt32 >>> (((8 : Int32)).toUInt32 &&& Int32.toUInt32 31)).toInt32) + ((((((((x0 - (((x0).toUInt32 >>> (((1 : Int32)).toUInt32 &&& Int32.toUInt32 31)).toInt32 &&& (Int32.ofNat 1431655765))) &&& (Int32.ofNat 858993459)) + ((((x0 - (((x0).toUInt32 >>> (((1 : Int32)).toUInt32 &&& Int32.toUInt32 31)).toInt32 &&& (Int32.ofNat 1431655765)))).toUInt32 >>> (((2 : Int32)).toUInt32 &&& Int32.toUInt32 31)).toInt32 &&& (Int32.ofNat 858993459))) + (((((x0 - (((x0).toUInt32 >>> (((1 : Int32)).toUInt32 &&& Int32.toUInt32 31)).toInt32 &&& (Int32.ofNat 1431655765))) &&& (Int32.ofNat 858993459)) + ((((x0 - (((x0).toUInt32 >>> (((1 : Int32)).toUInt32 &&& Int32.toUInt32 31)).toInt32 &&& (Int32.ofNat 1431655765)))).toUInt32 >>> (((2 : Int32)).toUInt32 &&& Int32.toUInt32 31)).toInt32 &&& (Int32.ofNat 858993459)))).toUInt32 >>> (((4 : Int32)).toUInt32 &&& Int32.toUInt32 31)).toInt32) &&& (Int32.ofNat 252645135)) + (((((((x0 - (((x0).toUInt32 >>> (((1 : Int32)).toUInt32 &&& Int32.toUInt32 31)).toInt32 &&& (Int32.ofNat 1431655765))) &&& (Int32.ofNat 858993459)) + ((((x0 - (((x0).toUInt32 >>> (((1 : Int32)).toUInt32 &&& Int32.toUInt32 31)).toInt32 &&& (Int32.ofNat 1431655765)))).toUInt32 >>> (((2 : Int32)).toUInt32 &&& Int32.toUInt32 31)).toInt32 &&& (Int32.ofNat 858993459))) + (((((x0 - (((x0).toUInt32 >>> (((1 : Int32)).toUInt32 &&& Int32.toUInt32 31)).toInt32 &&& (Int32.ofNat 1431655765))) &&& (Int32.ofNat 858993459)) + ((((x0 - (((x0).toUInt32 >>> (((1 : Int32)).toUInt32 &&& Int32.toUInt32 31)).toInt32 &&& (Int32.ofNat 1431655765)))).toUInt32 >>> (((2 : Int32)).toUInt32 &&& Int32.toUInt32 31)).toInt32 &&& (Int32.ofNat 858993459)))).toUInt32 >>> (((4 : Int32)).toUInt32 &&& Int32.toUInt32 31)).toInt32) &&& (Int32.ofNat 252645135))).toUInt32 >>> (((8 : Int32)).toUInt32 &&& Int32.toUInt32 31)).toInt32)).toUInt32 >>> (((16 : Int32)).toUInt32 &&& Int32.toUInt32 31)).toInt32) &&& (63 : Int32)))) (hp I J (pm_RT pa pb ga))) : Px k 176 m_Ji_bitCount 0 [.int x0] [] (hp I J (pm_RT pa pb ga)) Q := by
  refine x_l 1 rfl rfl rfl ?_
  refine x_l 2 rfl rfl rfl ?_
  refine z_k 3 1 rfl (by decide) rfl ?_
  refine x_s 4 rfl rfl rfl ?_
  refine x_li 7 rfl (Or.inr rfl) rfl ?_
  refine x_s 8 rfl rfl rfl ?_
  refine x_s 9 rfl rfl rfl ?_
  refine x_t 10 rfl rfl rfl ?_
  refine x_l 11 rfl rfl rfl ?_
  refine x_li 14 rfl (Or.inr rfl) rfl ?_
  refine x_s 15 rfl rfl rfl ?_
  refine x_l 16 rfl rfl rfl ?_
  refine z_k 17 2 rfl (by decide) rfl ?_
  refine x_s 18 rfl rfl rfl ?_
  refine x_li 21 rfl (Or.inr rfl) rfl ?_
  refine x_s 22 rfl rfl rfl ?_
  refine x_s 23 rfl rfl rfl ?_
  refine x_t 24 rfl rfl rfl ?_
  refine x_l 25 rfl rfl rfl ?_
  refine x_l 26 rfl rfl rfl ?_
  refine z_k 27 4 rfl (by decide) rfl ?_
  refine x_s 28 rfl rfl rfl ?_
  refine x_s 29 rfl rfl rfl ?_
  refine x_li 32 rfl (Or.inr rfl) rfl ?_
  refine x_s 33 rfl rfl rfl ?_
  refine x_t 34 rfl rfl rfl ?_
  refine x_l 35 rfl rfl rfl ?_
  refine x_l 36 rfl rfl rfl ?_
  refine z_k 38 8 rfl (by decide) rfl ?_
  refine x_s 39 rfl rfl rfl ?_
  refine x_s 40 rfl rfl rfl ?_
  refine x_t 41 rfl rfl rfl ?_
  refine x_l 42 rfl rfl rfl ?_
  refine x_l 43 rfl rfl rfl ?_
  refine z_k 45 16 rfl (by decide) rfl ?_
  refine x_s 46 rfl rfl rfl ?_
  refine x_s 47 rfl rfl rfl ?_
  refine x_t 48 rfl rfl rfl ?_
  refine x_l 49 rfl rfl rfl ?_
  refine z_k 51 63 rfl (by decide) rfl ?_
  refine x_s 52 rfl rfl rfl ?_
  exact x_ri rfl (Or.inl rfl) h

theorem bk_Jm_floorDiv_JJ_0 {k : Nat} {pa pb : Nat} {ga : Nat → Nat} {I : pm_II} {J : pm_JJ} {Q : Option Value → pm_H → Prop} {y0 : Int64} {y2 : Int64} (h : ¬ y2 = 0 ∧ ((0 ≤ (lg_cmp (y0 ^^^ y2) (Int64.ofNat 0)) → Q (some (.long (y0 / y2))) (hp I J (pm_RT pa pb ga))) ∧ (¬ (0 ≤ (lg_cmp (y0 ^^^ y2) (Int64.ofNat 0))) → (((lg_cmp ((y0 / y2) * y2) y0) = 0 → Q (some (.long (y0 / y2))) (hp I J (pm_RT pa pb ga))) ∧ (¬ ((lg_cmp ((y0 / y2) * y2) y0) = 0) → Q (some (.long ((y0 / y2) - (Int64.ofNat 1)))) (hp I J (pm_RT pa pb ga))))))) : Px k 176 m_Jm_floorDiv_JJ 0 [.long y0, .null, .long y2, .null, .null, .null] [] (hp I J (pm_RT pa pb ga)) Q := by
  refine x_l 1 rfl rfl rfl ?_
  refine x_l 2 rfl rfl rfl ?_
  have h0 := h.1
  have h := h.2
  refine x_ldv 3 rfl h0 rfl ?_
  refine x_t 5 rfl rfl rfl ?_
  refine x_l 6 rfl rfl rfl ?_
  refine x_l 7 rfl rfl rfl ?_
  refine x_s 8 rfl rfl rfl ?_
  refine x_s 9 rfl rfl rfl ?_
  refine x_lc 10 rfl rfl ?_
  refine x_b 13 rfl rfl rfl (fun c => ?_) (fun c => ?_)
  · have h := h.1 c
    refine x_l 29 rfl rfl rfl ?_
    exact x_rj rfl rfl h
  · have h := h.2 c
    refine x_l 15 rfl rfl rfl ?_
    refine x_l 16 rfl rfl rfl ?_
    refine x_s 17 rfl rfl rfl ?_
    refine x_l 18 rfl rfl rfl ?_
    refine x_lc 19 rfl rfl ?_
    refine x_b 22 rfl rfl rfl (fun c => ?_) (fun c => ?_)
    · have h := h.1 c
      refine x_l 29 rfl rfl rfl ?_
      exact x_rj rfl rfl h
    · have h := h.2 c
      refine x_l 24 rfl rfl rfl ?_
      refine x_s 25 rfl rfl rfl ?_
      refine x_s 26 rfl rfl rfl ?_
      exact x_rj rfl rfl h

theorem bk_Jm_min_JJ_0 {k : Nat} {pa pb : Nat} {ga : Nat → Nat} {I : pm_II} {J : pm_JJ} {Q : Option Value → pm_H → Prop} {y0 : Int64} {y2 : Int64} (h : ((0 < (lg_cmp y0 y2) → Q (some (.long y2)) (hp I J (pm_RT pa pb ga))) ∧ (¬ (0 < (lg_cmp y0 y2)) → Q (some (.long y0)) (hp I J (pm_RT pa pb ga))))) : Px k 176 m_Jm_min_JJ 0 [.long y0, .null, .long y2, .null] [] (hp I J (pm_RT pa pb ga)) Q := by
  refine x_l 1 rfl rfl rfl ?_
  refine x_l 2 rfl rfl rfl ?_
  refine x_lc 3 rfl rfl ?_
  refine x_b 6 rfl rfl rfl (fun c => ?_) (fun c => ?_)
  · have h := h.1 c
    refine x_l 11 rfl rfl rfl ?_
    exact x_rj rfl rfl h
  · have h := h.2 c
    refine x_l 7 rfl rfl rfl ?_
    refine x_g rfl ?_
    exact x_rj rfl rfl h

theorem bk_Jm_abs_J_0 {k : Nat} {pa pb : Nat} {ga : Nat → Nat} {I : pm_II} {J : pm_JJ} {Q : Option Value → pm_H → Prop} {y0 : Int64} (h : ((0 ≤ (lg_cmp y0 (Int64.ofNat 0)) → Q (some (.long y0)) (hp I J (pm_RT pa pb ga))) ∧ (¬ (0 ≤ (lg_cmp y0 (Int64.ofNat 0))) → Q (some (.long (-y0))) (hp I J (pm_RT pa pb ga))))) : Px k 176 m_Jm_abs_J 0 [.long y0, .null] [] (hp I J (pm_RT pa pb ga)) Q := by
  refine x_l 1 rfl rfl rfl ?_
  refine x_s 2 rfl rfl rfl ?_
  refine x_lc 3 rfl rfl ?_
  refine x_b 6 rfl rfl rfl (fun c => ?_) (fun c => ?_)
  · have h := h.1 c
    refine x_l 12 rfl rfl rfl ?_
    exact x_rj rfl rfl h
  · have h := h.2 c
    refine x_l 7 rfl rfl rfl ?_
    refine x_s 8 rfl rfl rfl ?_
    refine x_g rfl ?_
    exact x_rj rfl rfl h
