theorem bk_Ph_feed_0 {k : Nat} {pa pb : Nat} {ga : Nat → Nat} {I : pm_II} {J : pm_JJ} {Q : Option Value → pm_H → Prop} {x1 : Int32} {x2 : Int32} {x3 : Int32} {x4 : Int32} {x5 : Int32} (h : Px k 176 m_Ta_hasRoomFor 0 [.ref 17, .int 20] [] (hp I J (pm_RT pa pb ga)) (fun r h' => h'.1 = 176 ∧ Px (k + 1) 176 m_Ph_feed 9 [.ref 16, .int x1, .int x2, .int x3, .int x4, .int x5] (r.toList ++ []) h' Q)) : Px (k + 1) 176 m_Ph_feed 0 [.ref 16, .int x1, .int x2, .int x3, .int x4, .int x5] [] (hp I J (pm_RT pa pb ga)) Q := by
  refine x_l 1 rfl rfl rfl ?_
  refine z_gf 4 (.ref 17) rfl ⟨rfl, rfl, rfl⟩ rfl rfl ?_
  refine z_k 6 20 rfl (by decide) rfl ?_
  exact z_cv (As := [.int 20]) (rest := []) (b := 17) rfl at_Ta_hasRoomFor rfl rfl (Nat.le_of_ble_eq_true rfl) (Nat.le_of_ble_eq_true rfl) ⟨rfl, rfl, rfl⟩ (by decide) rfl h

theorem bk_Ph_feed_9 {k : Nat} {pa pb : Nat} {ga : Nat → Nat} {I : pm_II} {J : pm_JJ} {Q : Option Value → pm_H → Prop} {x1 : Int32} {x2 : Int32} {x3 : Int32} {x4 : Int32} {x5 : Int32} {s0 : Int32} (h : ((¬ s0 = 0 → Px k 176 m_Ta_append 0 [.ref 17, .int x1, .null] [] (hp I J (pm_RT pa pb ga)) (fun r h' => h'.1 = 176 ∧ Px (k + 1) 176 m_Ph_feed 23 [.ref 16, .int x1, .int x2, .int x3, .int x4, .int x5] (r.toList ++ []) h' Q)) ∧ (¬ (¬ s0 = 0) → Q (some (.int (-4))) (hp I J (pm_RT pa pb ga))))) : Px (k + 1) 176 m_Ph_feed 9 [.ref 16, .int x1, .int x2, .int x3, .int x4, .int x5] [.int s0] (hp I J (pm_RT pa pb ga)) Q := by
  refine x_b 12 rfl rfl rfl (fun c => ?_) (fun c => ?_)
  · have h := h.1 c
    refine x_l 16 rfl rfl rfl ?_
    refine z_gf 19 (.ref 17) rfl ⟨rfl, rfl, rfl⟩ rfl rfl ?_
    refine x_l 20 rfl rfl rfl ?_
    exact z_cv (As := [.int x1]) (rest := []) (b := 17) rfl at_Ta_append rfl rfl (Nat.le_of_ble_eq_true rfl) (Nat.le_of_ble_eq_true rfl) ⟨rfl, rfl, rfl⟩ (by decide) rfl h
  · have h := h.2 c
    refine z_k 14 (-4) rfl (by decide) rfl ?_
    exact x_ri rfl (Or.inl rfl) h

theorem bk_Ph_feed_23 {k : Nat} {pa pb : Nat} {ga : Nat → Nat} {I : pm_II} {J : pm_JJ} {Q : Option Value → pm_H → Prop} {x1 : Int32} {x2 : Int32} {x3 : Int32} {x4 : Int32} {x5 : Int32} (h : Px k 176 m_Ta_append 0 [.ref 17, .int x2, .null] [] (hp I J (pm_RT pa pb ga)) (fun r h' => h'.1 = 176 ∧ Px (k + 1) 176 m_Ph_feed 31 [.ref 16, .int x1, .int x2, .int x3, .int x4, .int x5] (r.toList ++ []) h' Q)) : Px (k + 1) 176 m_Ph_feed 23 [.ref 16, .int x1, .int x2, .int x3, .int x4, .int x5] [] (hp I J (pm_RT pa pb ga)) Q := by
  refine x_l 24 rfl rfl rfl ?_
  refine z_gf 27 (.ref 17) rfl ⟨rfl, rfl, rfl⟩ rfl rfl ?_
  refine x_l 28 rfl rfl rfl ?_
  exact z_cv (As := [.int x2]) (rest := []) (b := 17) rfl at_Ta_append rfl rfl (Nat.le_of_ble_eq_true rfl) (Nat.le_of_ble_eq_true rfl) ⟨rfl, rfl, rfl⟩ (by decide) rfl h

theorem bk_Ph_feed_31 {k : Nat} {pa pb : Nat} {ga : Nat → Nat} {I : pm_II} {J : pm_JJ} {Q : Option Value → pm_H → Prop} {x1 : Int32} {x2 : Int32} {x3 : Int32} {x4 : Int32} {x5 : Int32} (h : Px k 176 m_Ta_append 0 [.ref 17, .int x3, .null] [] (hp I J (pm_RT pa pb ga)) (fun r h' => h'.1 = 176 ∧ Px (k + 1) 176 m_Ph_feed 39 [.ref 16, .int x1, .int x2, .int x3, .int x4, .int x5] (r.toList ++ []) h' Q)) : Px (k + 1) 176 m_Ph_feed 31 [.ref 16, .int x1, .int x2, .int x3, .int x4, .int x5] [] (hp I J (pm_RT pa pb ga)) Q := by
  refine x_l 32 rfl rfl rfl ?_
  refine z_gf 35 (.ref 17) rfl ⟨rfl, rfl, rfl⟩ rfl rfl ?_
  refine x_l 36 rfl rfl rfl ?_
  exact z_cv (As := [.int x3]) (rest := []) (b := 17) rfl at_Ta_append rfl rfl (Nat.le_of_ble_eq_true rfl) (Nat.le_of_ble_eq_true rfl) ⟨rfl, rfl, rfl⟩ (by decide) rfl h

theorem bk_Ph_feed_39 {k : Nat} {pa pb : Nat} {ga : Nat → Nat} {I : pm_II} {J : pm_JJ} {Q : Option Value → pm_H → Prop} {x1 : Int32} {x2 : Int32} {x3 : Int32} {x4 : Int32} {x5 : Int32} (h : Px k 176 m_Ta_append 0 [.ref 17, .int x4, .null] [] (hp I J (pm_RT pa pb ga)) (fun r h' => h'.1 = 176 ∧ Px (k + 1) 176 m_Ph_feed 48 [.ref 16, .int x1, .int x2, .int x3, .int x4, .int x5] (r.toList ++ []) h' Q)) : Px (k + 1) 176 m_Ph_feed 39 [.ref 16, .int x1, .int x2, .int x3, .int x4, .int x5] [] (hp I J (pm_RT pa pb ga)) Q := by
  refine x_l 40 rfl rfl rfl ?_
  refine z_gf 43 (.ref 17) rfl ⟨rfl, rfl, rfl⟩ rfl rfl ?_
  refine x_l 45 rfl rfl rfl ?_
  exact z_cv (As := [.int x4]) (rest := []) (b := 17) rfl at_Ta_append rfl rfl (Nat.le_of_ble_eq_true rfl) (Nat.le_of_ble_eq_true rfl) ⟨rfl, rfl, rfl⟩ (by decide) rfl h

theorem bk_Ph_feed_48 {k : Nat} {pa pb : Nat} {ga : Nat → Nat} {I : pm_II} {J : pm_JJ} {Q : Option Value → pm_H → Prop} {x1 : Int32} {x2 : Int32} {x3 : Int32} {x4 : Int32} {x5 : Int32} (h : Px k 176 m_Ta_append 0 [.ref 17, .int x5, .null] [] (hp I J (pm_RT pa pb ga)) (fun r h' => h'.1 = 176 ∧ Px (k + 1) 176 m_Ph_feed 57 [.ref 16, .int x1, .int x2, .int x3, .int x4, .int x5] (r.toList ++ []) h' Q)) : Px (k + 1) 176 m_Ph_feed 48 [.ref 16, .int x1, .int x2, .int x3, .int x4, .int x5] [] (hp I J (pm_RT pa pb ga)) Q := by
  refine x_l 49 rfl rfl rfl ?_
  refine z_gf 52 (.ref 17) rfl ⟨rfl, rfl, rfl⟩ rfl rfl ?_
  refine x_l 54 rfl rfl rfl ?_
  exact z_cv (As := [.int x5]) (rest := []) (b := 17) rfl at_Ta_append rfl rfl (Nat.le_of_ble_eq_true rfl) (Nat.le_of_ble_eq_true rfl) ⟨rfl, rfl, rfl⟩ (by decide) rfl h

theorem bk_Ph_feed_57 {k : Nat} {pa pb : Nat} {ga : Nat → Nat} {I : pm_II} {J : pm_JJ} {Q : Option Value → pm_H → Prop} {x1 : Int32} {x2 : Int32} {x3 : Int32} {x4 : Int32} {x5 : Int32} (h : Px k 176 m_Ta_length 0 [.ref 17] [] (hp I J (pm_RT pa pb ga)) (fun r h' => h'.1 = 176 ∧ Px (k + 1) 176 m_Ph_feed 64 [.ref 16, .int x1, .int x2, .int x3, .int x4, .int x5] (r.toList ++ []) h' Q)) : Px (k + 1) 176 m_Ph_feed 57 [.ref 16, .int x1, .int x2, .int x3, .int x4, .int x5] [] (hp I J (pm_RT pa pb ga)) Q := by
  refine x_l 58 rfl rfl rfl ?_
  refine z_gf 61 (.ref 17) rfl ⟨rfl, rfl, rfl⟩ rfl rfl ?_
  exact z_cv (As := []) (rest := []) (b := 17) rfl at_Ta_length rfl rfl (Nat.le_of_ble_eq_true rfl) (Nat.le_of_ble_eq_true rfl) ⟨rfl, rfl, rfl⟩ (by decide) rfl h

theorem bk_Ph_feed_64 {k : Nat} {pa pb : Nat} {ga : Nat → Nat} {I : pm_II} {J : pm_JJ} {Q : Option Value → pm_H → Prop} {x1 : Int32} {x2 : Int32} {x3 : Int32} {x4 : Int32} {x5 : Int32} {s0 : Int32} (h : Q (some (.int s0)) (hp I J (pm_RT pa pb ga))) : Px (k + 1) 176 m_Ph_feed 64 [.ref 16, .int x1, .int x2, .int x3, .int x4, .int x5] [.int s0] (hp I J (pm_RT pa pb ga)) Q := by
  exact x_ri rfl (Or.inl rfl) h

theorem bk_Ph_end_0 {k : Nat} {pa pb : Nat} {ga : Nat → Nat} {I : pm_II} {J : pm_JJ} {Q : Option Value → pm_H → Prop} {x1 : Int32} (h : Px k 176 m_Ta_shorten 0 [.ref 17, .int x1] [] (hp I J (pm_RT pa pb ga)) (fun r h' => h'.1 = 176 ∧ Px (k + 1) 176 m_Ph_end 8 [.ref 16, .int x1] (r.toList ++ []) h' Q)) : Px (k + 1) 176 m_Ph_end 0 [.ref 16, .int x1] [] (hp I J (pm_RT pa pb ga)) Q := by
  refine x_l 1 rfl rfl rfl ?_
  refine z_gf 4 (.ref 17) rfl ⟨rfl, rfl, rfl⟩ rfl rfl ?_
  refine x_l 5 rfl rfl rfl ?_
  exact z_cv (As := [.int x1]) (rest := []) (b := 17) rfl at_Ta_shorten rfl rfl (Nat.le_of_ble_eq_true rfl) (Nat.le_of_ble_eq_true rfl) ⟨rfl, rfl, rfl⟩ (by decide) rfl h

theorem bk_Ph_end_8 {k : Nat} {pa pb : Nat} {ga : Nat → Nat} {I : pm_II} {J : pm_JJ} {Q : Option Value → pm_H → Prop} {x1 : Int32} {s0 : Int32} (h : Q (some (.int s0)) (hp I J (pm_RT pa pb ga))) : Px (k + 1) 176 m_Ph_end 8 [.ref 16, .int x1] [.int s0] (hp I J (pm_RT pa pb ga)) Q := by
  exact x_ri rfl (Or.inl rfl) h

theorem bk_Ph_cut_0 {k : Nat} {pa pb : Nat} {ga : Nat → Nat} {I : pm_II} {J : pm_JJ} {Q : Option Value → pm_H → Prop} (h : Px k 176 m_Ta_open 0 [.ref 17] [] (hp I J (pm_RT pa pb ga)) (fun r h' => h'.1 = 176 ∧ Px (k + 1) 176 m_Ph_cut 7 [.ref 16] (r.toList ++ []) h' Q)) : Px (k + 1) 176 m_Ph_cut 0 [.ref 16] [] (hp I J (pm_RT pa pb ga)) Q := by
  refine x_l 1 rfl rfl rfl ?_
  refine z_gf 4 (.ref 17) rfl ⟨rfl, rfl, rfl⟩ rfl rfl ?_
  exact z_cv (As := []) (rest := []) (b := 17) rfl at_Ta_open rfl rfl (Nat.le_of_ble_eq_true rfl) (Nat.le_of_ble_eq_true rfl) ⟨rfl, rfl, rfl⟩ (by decide) rfl h

theorem bk_Ph_cut_7 {k : Nat} {pa pb : Nat} {ga : Nat → Nat} {I : pm_II} {J : pm_JJ} {Q : Option Value → pm_H → Prop} (h : Px k 176 m_Ro_takeText 0 [.ref 19, .ref 17, .null, .null, .null, .null] [] (hp I J (pm_RT pa pb ga)) (fun r h' => h'.1 = 176 ∧ Px (k + 1) 176 m_Ph_cut 22 [.ref 16] (r.toList ++ [.ref 17]) h' Q)) : Px (k + 1) 176 m_Ph_cut 7 [.ref 16] [] (hp I J (pm_RT pa pb ga)) Q := by
  refine x_l 8 rfl rfl rfl ?_
  refine z_gf 11 (.ref 17) rfl ⟨rfl, rfl, rfl⟩ rfl rfl ?_
  refine x_l 12 rfl rfl rfl ?_
  refine z_gf 15 (.ref 19) rfl ⟨rfl, rfl, rfl⟩ rfl rfl ?_
  refine x_l 16 rfl rfl rfl ?_
  refine z_gf 19 (.ref 17) rfl ⟨rfl, rfl, rfl⟩ rfl rfl ?_
  exact z_cv (As := [.ref 17]) (rest := [.ref 17]) (b := 19) rfl at_Ro_takeText rfl rfl (Nat.le_of_ble_eq_true rfl) (Nat.le_of_ble_eq_true rfl) ⟨rfl, rfl, rfl⟩ (by decide) rfl h

theorem bk_Ph_cut_22 {k : Nat} {pa pb : Nat} {ga : Nat → Nat} {I : pm_II} {J : pm_JJ} {Q : Option Value → pm_H → Prop} {s1 : Int32} (h : Px k 176 m_Ta_close 0 [.ref 17, .int s1] [] (hp I J (pm_RT pa pb ga)) (fun r h' => h'.1 = 176 ∧ Px (k + 1) 176 m_Ph_cut 25 [.ref 16] (r.toList ++ []) h' Q)) : Px (k + 1) 176 m_Ph_cut 22 [.ref 16] [.int s1, .ref 17] (hp I J (pm_RT pa pb ga)) Q := by
  exact z_cv (As := [.int s1]) (rest := []) (b := 17) rfl at_Ta_close rfl rfl (Nat.le_of_ble_eq_true rfl) (Nat.le_of_ble_eq_true rfl) ⟨rfl, rfl, rfl⟩ (by decide) rfl h

theorem bk_Ph_cut_25 {k : Nat} {pa pb : Nat} {ga : Nat → Nat} {I : pm_II} {J : pm_JJ} {Q : Option Value → pm_H → Prop} {s0 : Int32} (h : Q (some (.int s0)) (hp I J (pm_RT pa pb ga))) : Px (k + 1) 176 m_Ph_cut 25 [.ref 16] [.int s0] (hp I J (pm_RT pa pb ga)) Q := by
  exact x_ri rfl (Or.inl rfl) h

theorem bk_Ph_pattern_0 {k : Nat} {pa pb : Nat} {ga : Nat → Nat} {I : pm_II} {J : pm_JJ} {Q : Option Value → pm_H → Prop} {x1 : Int32} {x2 : Int32} (h : Px k 176 m_Ro_tell 0 [.ref 19, .int x1, .int x2] [] (hp I J (pm_RT pa pb ga)) (fun r h' => h'.1 = 176 ∧ Px (k + 1) 176 m_Ph_pattern 9 [.ref 16, .int x1, .int x2] (r.toList ++ []) h' Q)) : Px (k + 1) 176 m_Ph_pattern 0 [.ref 16, .int x1, .int x2] [] (hp I J (pm_RT pa pb ga)) Q := by
  refine x_l 1 rfl rfl rfl ?_
  refine z_gf 4 (.ref 19) rfl ⟨rfl, rfl, rfl⟩ rfl rfl ?_
  refine x_l 5 rfl rfl rfl ?_
  refine x_l 6 rfl rfl rfl ?_
  exact z_cv (As := [.int x1, .int x2]) (rest := []) (b := 19) rfl at_Ro_tell rfl rfl (Nat.le_of_ble_eq_true rfl) (Nat.le_of_ble_eq_true rfl) ⟨rfl, rfl, rfl⟩ (by decide) rfl h

theorem bk_Ph_pattern_9 {k : Nat} {pa pb : Nat} {ga : Nat → Nat} {I : pm_II} {J : pm_JJ} {Q : Option Value → pm_H → Prop} {x1 : Int32} {x2 : Int32} {s0 : Int32} (h : Q (some (.int s0)) (hp I J (pm_RT pa pb ga))) : Px (k + 1) 176 m_Ph_pattern 9 [.ref 16, .int x1, .int x2] [.int s0] (hp I J (pm_RT pa pb ga)) Q := by
  exact x_ri rfl (Or.inl rfl) h

theorem bk_Ph_fold_0 {k : Nat} {pa pb : Nat} {ga : Nat → Nat} {I : pm_II} {J : pm_JJ} {Q : Option Value → pm_H → Prop} (h : Px k 176 m_Ta_open 0 [.ref 17] [] (hp I J (pm_RT pa pb ga)) (fun r h' => h'.1 = 176 ∧ Px (k + 1) 176 m_Ph_fold 7 [.ref 16] (r.toList ++ []) h' Q)) : Px (k + 1) 176 m_Ph_fold 0 [.ref 16] [] (hp I J (pm_RT pa pb ga)) Q := by
  refine x_l 1 rfl rfl rfl ?_
  refine z_gf 4 (.ref 17) rfl ⟨rfl, rfl, rfl⟩ rfl rfl ?_
  exact z_cv (As := []) (rest := []) (b := 17) rfl at_Ta_open rfl rfl (Nat.le_of_ble_eq_true rfl) (Nat.le_of_ble_eq_true rfl) ⟨rfl, rfl, rfl⟩ (by decide) rfl h

theorem bk_Ph_fold_7 {k : Nat} {pa pb : Nat} {ga : Nat → Nat} {I : pm_II} {J : pm_JJ} {Q : Option Value → pm_H → Prop} (h : Px k 176 m_Fo_takeText 0 [.ref 29, .ref 17, .null, .null, .null] [] (hp I J (pm_RT pa pb ga)) (fun r h' => h'.1 = 176 ∧ Px (k + 1) 176 m_Ph_fold 22 [.ref 16] (r.toList ++ [.ref 17]) h' Q)) : Px (k + 1) 176 m_Ph_fold 7 [.ref 16] [] (hp I J (pm_RT pa pb ga)) Q := by
  refine x_l 8 rfl rfl rfl ?_
  refine z_gf 11 (.ref 17) rfl ⟨rfl, rfl, rfl⟩ rfl rfl ?_
  refine x_l 12 rfl rfl rfl ?_
  refine z_gf 15 (.ref 29) rfl ⟨rfl, rfl, rfl⟩ rfl rfl ?_
  refine x_l 16 rfl rfl rfl ?_
  refine z_gf 19 (.ref 17) rfl ⟨rfl, rfl, rfl⟩ rfl rfl ?_
  exact z_cv (As := [.ref 17]) (rest := [.ref 17]) (b := 29) rfl at_Fo_takeText rfl rfl (Nat.le_of_ble_eq_true rfl) (Nat.le_of_ble_eq_true rfl) ⟨rfl, rfl, rfl⟩ (by decide) rfl h

theorem bk_Ph_fold_22 {k : Nat} {pa pb : Nat} {ga : Nat → Nat} {I : pm_II} {J : pm_JJ} {Q : Option Value → pm_H → Prop} {s1 : Int32} (h : Px k 176 m_Ta_close 0 [.ref 17, .int s1] [] (hp I J (pm_RT pa pb ga)) (fun r h' => h'.1 = 176 ∧ Px (k + 1) 176 m_Ph_fold 25 [.ref 16] (r.toList ++ []) h' Q)) : Px (k + 1) 176 m_Ph_fold 22 [.ref 16] [.int s1, .ref 17] (hp I J (pm_RT pa pb ga)) Q := by
  exact z_cv (As := [.int s1]) (rest := []) (b := 17) rfl at_Ta_close rfl rfl (Nat.le_of_ble_eq_true rfl) (Nat.le_of_ble_eq_true rfl) ⟨rfl, rfl, rfl⟩ (by decide) rfl h

theorem bk_Ph_fold_25 {k : Nat} {pa pb : Nat} {ga : Nat → Nat} {I : pm_II} {J : pm_JJ} {Q : Option Value → pm_H → Prop} {s0 : Int32} (h : Q (some (.int s0)) (hp I J (pm_RT pa pb ga))) : Px (k + 1) 176 m_Ph_fold 25 [.ref 16] [.int s0] (hp I J (pm_RT pa pb ga)) Q := by
  exact x_ri rfl (Or.inl rfl) h

theorem bk_Ph_book_0 {k : Nat} {pa pb : Nat} {ga : Nat → Nat} {I : pm_II} {J : pm_JJ} {Q : Option Value → pm_H → Prop} {x1 : Int32} {x2 : Int32} {x3 : Int32} (h : Px k 176 m_Fo_bind 0 [.ref 29, .int x1, .int x2, .int x3] [] (hp I J (pm_RT pa pb ga)) (fun r h' => h'.1 = 176 ∧ Px (k + 1) 176 m_Ph_book 10 [.ref 16, .int x1, .int x2, .int x3] (r.toList ++ []) h' Q)) : Px (k + 1) 176 m_Ph_book 0 [.ref 16, .int x1, .int x2, .int x3] [] (hp I J (pm_RT pa pb ga)) Q := by
  refine x_l 1 rfl rfl rfl ?_
  refine z_gf 4 (.ref 29) rfl ⟨rfl, rfl, rfl⟩ rfl rfl ?_
  refine x_l 5 rfl rfl rfl ?_
  refine x_l 6 rfl rfl rfl ?_
  refine x_l 7 rfl rfl rfl ?_
  exact z_cv (As := [.int x1, .int x2, .int x3]) (rest := []) (b := 29) rfl at_Fo_bind rfl rfl (Nat.le_of_ble_eq_true rfl) (Nat.le_of_ble_eq_true rfl) ⟨rfl, rfl, rfl⟩ (by decide) rfl h

theorem bk_Ph_book_10 {k : Nat} {pa pb : Nat} {ga : Nat → Nat} {I : pm_II} {J : pm_JJ} {Q : Option Value → pm_H → Prop} {x1 : Int32} {x2 : Int32} {x3 : Int32} {s0 : Int32} (h : Q (some (.int s0)) (hp I J (pm_RT pa pb ga))) : Px (k + 1) 176 m_Ph_book 10 [.ref 16, .int x1, .int x2, .int x3] [.int s0] (hp I J (pm_RT pa pb ga)) Q := by
  exact x_ri rfl (Or.inl rfl) h

theorem bk_Ph_page_0 {k : Nat} {pa pb : Nat} {ga : Nat → Nat} {I : pm_II} {J : pm_JJ} {Q : Option Value → pm_H → Prop} {x1 : Int32} {x2 : Int32} {x3 : Int32} {x4 : Int32} (h : Px k 176 m_Fo_hasPanel 0 [.ref 29, .int x1, .int x2, .int x3, .int x4] [] (hp I J (pm_RT pa pb ga)) (fun r h' => h'.1 = 176 ∧ Px (k + 1) 176 m_Ph_page 12 [.ref 16, .int x1, .int x2, .int x3, .int x4, .null] (r.toList ++ []) h' Q)) : Px (k + 1) 176 m_Ph_page 0 [.ref 16, .int x1, .int x2, .int x3, .int x4, .null] [] (hp I J (pm_RT pa pb ga)) Q := by
  refine x_l 1 rfl rfl rfl ?_
  refine z_gf 4 (.ref 29) rfl ⟨rfl, rfl, rfl⟩ rfl rfl ?_
  refine x_l 5 rfl rfl rfl ?_
  refine x_l 6 rfl rfl rfl ?_
  refine x_l 7 rfl rfl rfl ?_
  refine x_l 9 rfl rfl rfl ?_
  exact z_cv (As := [.int x1, .int x2, .int x3, .int x4]) (rest := []) (b := 29) rfl at_Fo_hasPanel rfl rfl (Nat.le_of_ble_eq_true rfl) (Nat.le_of_ble_eq_true rfl) ⟨rfl, rfl, rfl⟩ (by decide) rfl h

theorem bk_Ph_page_12 {k : Nat} {pa pb : Nat} {ga : Nat → Nat} {I : pm_II} {J : pm_JJ} {Q : Option Value → pm_H → Prop} {x1 : Int32} {x2 : Int32} {x3 : Int32} {x4 : Int32} {s0 : Int32} (h : ((¬ s0 = 0 → Px k 176 m_Fo_pageOn 0 [.ref 29, .int x1, .int x2, .int x3, .int x4, .null] [] (hp I J (pm_RT pa pb ga)) (fun r h' => h'.1 = 176 ∧ Px (k + 1) 176 m_Ph_page 29 [.ref 16, .int x1, .int x2, .int x3, .int x4, .null] (r.toList ++ []) h' Q)) ∧ (¬ (¬ s0 = 0) → Q (some (.int (-1))) (hp I J (pm_RT pa pb ga))))) : Px (k + 1) 176 m_Ph_page 12 [.ref 16, .int x1, .int x2, .int x3, .int x4, .null] [.int s0] (hp I J (pm_RT pa pb ga)) Q := by
  refine x_b 15 rfl rfl rfl (fun c => ?_) (fun c => ?_)
  · have h := h.1 c
    refine x_l 18 rfl rfl rfl ?_
    refine z_gf 21 (.ref 29) rfl ⟨rfl, rfl, rfl⟩ rfl rfl ?_
    refine x_l 22 rfl rfl rfl ?_
    refine x_l 23 rfl rfl rfl ?_
    refine x_l 24 rfl rfl rfl ?_
    refine x_l 26 rfl rfl rfl ?_
    exact z_cv (As := [.int x1, .int x2, .int x3, .int x4]) (rest := []) (b := 29) rfl at_Fo_pageOn rfl rfl (Nat.le_of_ble_eq_true rfl) (Nat.le_of_ble_eq_true rfl) ⟨rfl, rfl, rfl⟩ (by decide) rfl h
  · have h := h.2 c
    refine z_k 16 (-1) rfl (by decide) rfl ?_
    exact x_ri rfl (Or.inl rfl) h

theorem bk_Ph_page_29 {k : Nat} {pa pb : Nat} {ga : Nat → Nat} {I : pm_II} {J : pm_JJ} {Q : Option Value → pm_H → Prop} {x1 : Int32} {x2 : Int32} {x3 : Int32} {x4 : Int32} {s0 : Int32} (h : Px k 176 m_Fo_isUpsideDown 0 [.ref 29, .int x3, .int x4] [] (hp I J (pm_RT pa pb ga)) (fun r h' => h'.1 = 176 ∧ Px (k + 1) 176 m_Ph_page 41 [.ref 16, .int x1, .int x2, .int x3, .int x4, .int s0] (r.toList ++ []) h' Q)) : Px (k + 1) 176 m_Ph_page 29 [.ref 16, .int x1, .int x2, .int x3, .int x4, .null] [.int s0] (hp I J (pm_RT pa pb ga)) Q := by
  refine x_t 31 rfl rfl rfl ?_
  refine x_l 32 rfl rfl rfl ?_
  refine z_gf 35 (.ref 29) rfl ⟨rfl, rfl, rfl⟩ rfl rfl ?_
  refine x_l 36 rfl rfl rfl ?_
  refine x_l 38 rfl rfl rfl ?_
  exact z_cv (As := [.int x3, .int x4]) (rest := []) (b := 29) rfl at_Fo_isUpsideDown rfl rfl (Nat.le_of_ble_eq_true rfl) (Nat.le_of_ble_eq_true rfl) ⟨rfl, rfl, rfl⟩ (by decide) rfl h

theorem bk_Ph_page_41 {k : Nat} {pa pb : Nat} {ga : Nat → Nat} {I : pm_II} {J : pm_JJ} {Q : Option Value → pm_H → Prop} {x1 : Int32} {x2 : Int32} {x3 : Int32} {x4 : Int32} {x5 : Int32} {s0 : Int32} (h : ((s0 = 0 → Q (some (.int x5)) (hp I J (pm_RT pa pb ga))) ∧ (¬ (s0 = 0) → Q (some (.int (x5 + (1000 : Int32)))) (hp I J (pm_RT pa pb ga))))) : Px (k + 1) 176 m_Ph_page 41 [.ref 16, .int x1, .int x2, .int x3, .int x4, .int x5] [.int s0] (hp I J (pm_RT pa pb ga)) Q := by
  refine x_b 44 rfl rfl rfl (fun c => ?_) (fun c => ?_)
  · have h := h.1 c
    refine x_l 55 rfl rfl rfl ?_
    exact x_ri rfl (Or.inl rfl) h
  · have h := h.2 c
    refine x_l 46 rfl rfl rfl ?_
    refine z_k 49 1000 rfl (by decide) rfl ?_
    refine x_s 50 rfl rfl rfl ?_
    refine x_g rfl ?_
    exact x_ri rfl (Or.inl rfl) h

theorem bk_Ph_where_0 {k : Nat} {pa pb : Nat} {ga : Nat → Nat} {I : pm_II} {J : pm_JJ} {Q : Option Value → pm_H → Prop} {x1 : Int32} {x2 : Int32} (h : Px k 176 m_Fo_find 0 [.ref 29, .int x1, .int x2, .null, .null, .null, .null] [] (hp I J (pm_RT pa pb ga)) (fun r h' => h'.1 = 176 ∧ Px (k + 1) 176 m_Ph_where 9 [.ref 16, .int x1, .int x2] (r.toList ++ []) h' Q)) : Px (k + 1) 176 m_Ph_where 0 [.ref 16, .int x1, .int x2] [] (hp I J (pm_RT pa pb ga)) Q := by
  refine x_l 1 rfl rfl rfl ?_
  refine z_gf 4 (.ref 29) rfl ⟨rfl, rfl, rfl⟩ rfl rfl ?_
  refine x_l 5 rfl rfl rfl ?_
  refine x_l 6 rfl rfl rfl ?_
  exact z_cv (As := [.int x1, .int x2]) (rest := []) (b := 29) rfl at_Fo_find rfl rfl (Nat.le_of_ble_eq_true rfl) (Nat.le_of_ble_eq_true rfl) ⟨rfl, rfl, rfl⟩ (by decide) rfl h

theorem bk_Ph_where_9 {k : Nat} {pa pb : Nat} {ga : Nat → Nat} {I : pm_II} {J : pm_JJ} {Q : Option Value → pm_H → Prop} {x1 : Int32} {x2 : Int32} {s0 : Int32} (h : Q (some (.int s0)) (hp I J (pm_RT pa pb ga))) : Px (k + 1) 176 m_Ph_where 9 [.ref 16, .int x1, .int x2] [.int s0] (hp I J (pm_RT pa pb ga)) Q := by
  exact x_ri rfl (Or.inl rfl) h

theorem bk_Ph_draw_0 {k : Nat} {pa pb : Nat} {ga : Nat → Nat} {I : pm_II} {J : pm_JJ} {Q : Option Value → pm_H → Prop} {x1 : Int32} (h : ((x1 < 0 → Q (some (.int (-1))) (hp I J (pm_RT pa pb ga))) ∧ (¬ (x1 < 0) → ((x1 < 32 → Px k 176 m_Ta_open 0 [.ref 17] [] (hp I J (pm_RT pa pb ga)) (fun r h' => h'.1 = 176 ∧ Px (k + 1) 176 m_Ph_draw 19 [.ref 16, .int x1] (r.toList ++ []) h' Q)) ∧ (¬ (x1 < 32) → Q (some (.int (-1))) (hp I J (pm_RT pa pb ga))))))) : Px (k + 1) 176 m_Ph_draw 0 [.ref 16, .int x1] [] (hp I J (pm_RT pa pb ga)) Q := by
  refine x_l 1 rfl rfl rfl ?_
  refine x_b 4 rfl rfl rfl (fun c => ?_) (fun c => ?_)
  · have h := h.1 c
    refine z_k 11 (-1) rfl (by decide) rfl ?_
    exact x_ri rfl (Or.inl rfl) h
  · have h := h.2 c
    refine x_l 5 rfl rfl rfl ?_
    refine z_k 7 32 rfl (by decide) rfl ?_
    refine x_b 10 rfl rfl rfl (fun c => ?_) (fun c => ?_)
    · have h := h.1 c
      refine x_l 13 rfl rfl rfl ?_
      refine z_gf 16 (.ref 17) rfl ⟨rfl, rfl, rfl⟩ rfl rfl ?_
      exact z_cv (As := []) (rest := []) (b := 17) rfl at_Ta_open rfl rfl (Nat.le_of_ble_eq_true rfl) (Nat.le_of_ble_eq_true rfl) ⟨rfl, rfl, rfl⟩ (by decide) rfl h
    · have h := h.2 c
      refine z_k 11 (-1) rfl (by decide) rfl ?_
      exact x_ri rfl (Or.inl rfl) h

theorem bk_Ph_draw_19 {k : Nat} {pa pb : Nat} {ga : Nat → Nat} {I : pm_II} {J : pm_JJ} {Q : Option Value → pm_H → Prop} {x1 : Int32} (h : Px k 176 m_Pl_takeText 0 [.ref 36, .ref 17, .int x1, .null, .null, .null] [] (hp I J (pm_RT pa pb ga)) (fun r h' => h'.1 = 176 ∧ Px (k + 1) 176 m_Ph_draw 35 [.ref 16, .int x1] (r.toList ++ [.ref 17]) h' Q)) : Px (k + 1) 176 m_Ph_draw 19 [.ref 16, .int x1] [] (hp I J (pm_RT pa pb ga)) Q := by
  refine x_l 20 rfl rfl rfl ?_
  refine z_gf 23 (.ref 17) rfl ⟨rfl, rfl, rfl⟩ rfl rfl ?_
  refine x_l 24 rfl rfl rfl ?_
  refine z_gf 27 (.ref 36) rfl ⟨rfl, rfl, rfl⟩ rfl rfl ?_
  refine x_l 28 rfl rfl rfl ?_
  refine z_gf 31 (.ref 17) rfl ⟨rfl, rfl, rfl⟩ rfl rfl ?_
  refine x_l 32 rfl rfl rfl ?_
  exact z_cv (As := [.ref 17, .int x1]) (rest := [.ref 17]) (b := 36) rfl at_Pl_takeText rfl rfl (Nat.le_of_ble_eq_true rfl) (Nat.le_of_ble_eq_true rfl) ⟨rfl, rfl, rfl⟩ (by decide) rfl h

theorem bk_Ph_draw_35 {k : Nat} {pa pb : Nat} {ga : Nat → Nat} {I : pm_II} {J : pm_JJ} {Q : Option Value → pm_H → Prop} {x1 : Int32} {s1 : Int32} (h : Px k 176 m_Ta_close 0 [.ref 17, .int s1] [] (hp I J (pm_RT pa pb ga)) (fun r h' => h'.1 = 176 ∧ Px (k + 1) 176 m_Ph_draw 38 [.ref 16, .int x1] (r.toList ++ []) h' Q)) : Px (k + 1) 176 m_Ph_draw 35 [.ref 16, .int x1] [.int s1, .ref 17] (hp I J (pm_RT pa pb ga)) Q := by
  exact z_cv (As := [.int s1]) (rest := []) (b := 17) rfl at_Ta_close rfl rfl (Nat.le_of_ble_eq_true rfl) (Nat.le_of_ble_eq_true rfl) ⟨rfl, rfl, rfl⟩ (by decide) rfl h

theorem bk_Ph_draw_38 {k : Nat} {pa pb : Nat} {ga : Nat → Nat} {I : pm_II} {J : pm_JJ} {Q : Option Value → pm_H → Prop} {x1 : Int32} {s0 : Int32} (h : Q (some (.int s0)) (hp I J (pm_RT pa pb ga))) : Px (k + 1) 176 m_Ph_draw 38 [.ref 16, .int x1] [.int s0] (hp I J (pm_RT pa pb ga)) Q := by
  exact x_ri rfl (Or.inl rfl) h

theorem bk_Ph_point_0 {k : Nat} {pa pb : Nat} {ga : Nat → Nat} {I : pm_II} {J : pm_JJ} {Q : Option Value → pm_H → Prop} {x1 : Int32} {x2 : Int32} {x3 : Int32} {x4 : Int32} (h : Px k 176 m_Pl_pointAt 0 [.ref 36, .ref 29, .int x1, .int x2, .int x3, .int x4, .null, .null, .null] [] (hp I J (pm_RT pa pb ga)) (fun r h' => h'.1 = 176 ∧ Px (k + 1) 176 m_Ph_point 16 [.ref 16, .int x1, .int x2, .int x3, .int x4] (r.toList ++ []) h' Q)) : Px (k + 1) 176 m_Ph_point 0 [.ref 16, .int x1, .int x2, .int x3, .int x4] [] (hp I J (pm_RT pa pb ga)) Q := by
  refine x_l 1 rfl rfl rfl ?_
  refine z_gf 4 (.ref 36) rfl ⟨rfl, rfl, rfl⟩ rfl rfl ?_
  refine x_l 5 rfl rfl rfl ?_
  refine z_gf 8 (.ref 29) rfl ⟨rfl, rfl, rfl⟩ rfl rfl ?_
  refine x_l 9 rfl rfl rfl ?_
  refine x_l 10 rfl rfl rfl ?_
  refine x_l 11 rfl rfl rfl ?_
  refine x_l 13 rfl rfl rfl ?_
  exact z_cv (As := [.ref 29, .int x1, .int x2, .int x3, .int x4]) (rest := []) (b := 36) rfl at_Pl_pointAt rfl rfl (Nat.le_of_ble_eq_true rfl) (Nat.le_of_ble_eq_true rfl) ⟨rfl, rfl, rfl⟩ (by decide) rfl h

theorem bk_Ph_point_16 {k : Nat} {pa pb : Nat} {ga : Nat → Nat} {I : pm_II} {J : pm_JJ} {Q : Option Value → pm_H → Prop} {x1 : Int32} {x2 : Int32} {x3 : Int32} {x4 : Int32} {s0 : Int32} (h : Q (some (.int s0)) (hp I J (pm_RT pa pb ga))) : Px (k + 1) 176 m_Ph_point 16 [.ref 16, .int x1, .int x2, .int x3, .int x4] [.int s0] (hp I J (pm_RT pa pb ga)) Q := by
  exact x_ri rfl (Or.inl rfl) h

theorem bk_Ph_mount_0 {k : Nat} {pa pb : Nat} {ga : Nat → Nat} {I : pm_II} {J : pm_JJ} {Q : Option Value → pm_H → Prop} {x1 : Int32} {x2 : Int32} (h : Px k 176 m_Fo_hasSide 0 [.ref 29, .int x1, .int x2] [] (hp I J (pm_RT pa pb ga)) (fun r h' => h'.1 = 176 ∧ Px (k + 1) 176 m_Ph_mount 9 [.ref 16, .int x1, .int x2, .null, .null] (r.toList ++ []) h' Q)) : Px (k + 1) 176 m_Ph_mount 0 [.ref 16, .int x1, .int x2, .null, .null] [] (hp I J (pm_RT pa pb ga)) Q := by
  refine x_l 1 rfl rfl rfl ?_
  refine z_gf 4 (.ref 29) rfl ⟨rfl, rfl, rfl⟩ rfl rfl ?_
  refine x_l 5 rfl rfl rfl ?_
  refine x_l 6 rfl rfl rfl ?_
  exact z_cv (As := [.int x1, .int x2]) (rest := []) (b := 29) rfl at_Fo_hasSide rfl rfl (Nat.le_of_ble_eq_true rfl) (Nat.le_of_ble_eq_true rfl) ⟨rfl, rfl, rfl⟩ (by decide) rfl h

theorem bk_Ph_mount_9 {k : Nat} {pa pb : Nat} {ga : Nat → Nat} {I : pm_II} {J : pm_JJ} {Q : Option Value → pm_H → Prop} {x1 : Int32} {x2 : Int32} {s0 : Int32} (h : ((¬ s0 = 0 → Px k 176 m_Fo_columns 0 [.ref 29] [] (hp I J (pm_RT pa pb ga)) (fun r h' => h'.1 = 176 ∧ Px (k + 1) 176 m_Ph_mount 21 [.ref 16, .int x1, .int x2, .null, .null] (r.toList ++ []) h' Q)) ∧ (¬ (¬ s0 = 0) → Q (some (.int (-1))) (hp I J (pm_RT pa pb ga))))) : Px (k + 1) 176 m_Ph_mount 9 [.ref 16, .int x1, .int x2, .null, .null] [.int s0] (hp I J (pm_RT pa pb ga)) Q := by
  refine x_b 12 rfl rfl rfl (fun c => ?_) (fun c => ?_)
  · have h := h.1 c
    refine x_l 15 rfl rfl rfl ?_
    refine z_gf 18 (.ref 29) rfl ⟨rfl, rfl, rfl⟩ rfl rfl ?_
    exact z_cv (As := []) (rest := []) (b := 29) rfl at_Fo_columns rfl rfl (Nat.le_of_ble_eq_true rfl) (Nat.le_of_ble_eq_true rfl) ⟨rfl, rfl, rfl⟩ (by decide) rfl h
  · have h := h.2 c
    refine z_k 13 (-1) rfl (by decide) rfl ?_
    exact x_ri rfl (Or.inl rfl) h

theorem bk_Ph_mount_21 {k : Nat} {pa pb : Nat} {ga : Nat → Nat} {I : pm_II} {J : pm_JJ} {Q : Option Value → pm_H → Prop} {x1 : Int32} {x2 : Int32} {s0 : Int32} (h : Px k 176 m_Pr_clear 0 [.ref 39, .int s0, .null] [] (hp I J (pm_RT pa pb ga)) (fun r h' => h'.1 = 176 ∧ Px (k + 1) 176 m_Ph_mount 30 [.ref 16, .int x1, .int x2, .int s0, .null] (r.toList ++ []) h' Q)) : Px (k + 1) 176 m_Ph_mount 21 [.ref 16, .int x1, .int x2, .null, .null] [.int s0] (hp I J (pm_RT pa pb ga)) Q := by
  refine x_t 22 rfl rfl rfl ?_
  refine x_l 23 rfl rfl rfl ?_
  refine z_gf 26 (.ref 39) rfl ⟨rfl, rfl, rfl⟩ rfl rfl ?_
  refine x_l 27 rfl rfl rfl ?_
  exact z_cv (As := [.int s0]) (rest := []) (b := 39) rfl at_Pr_clear rfl rfl (Nat.le_of_ble_eq_true rfl) (Nat.le_of_ble_eq_true rfl) ⟨rfl, rfl, rfl⟩ (by decide) rfl h

theorem bk_Ph_mount_30 {k : Nat} {pa pb : Nat} {ga : Nat → Nat} {I : pm_II} {J : pm_JJ} {Q : Option Value → pm_H → Prop} {x1 : Int32} {x2 : Int32} {x3 : Int32} (h : Px (k + 1) 176 m_Ph_mount 33 [.ref 16, .int x1, .int x2, .int x3, .int 0] [] (hp I J (pm_RT pa pb ga)) Q) : Px (k + 1) 176 m_Ph_mount 30 [.ref 16, .int x1, .int x2, .int x3, .null] [] (hp I J (pm_RT pa pb ga)) Q := by
  refine z_k 31 0 rfl (by decide) rfl ?_
  refine x_t 33 rfl rfl rfl ?_
  exact h

theorem bk_Ph_mount_33 {k : Nat} {pa pb : Nat} {ga : Nat → Nat} {I : pm_II} {J : pm_JJ} {Q : Option Value → pm_H → Prop} {x1 : Int32} {x2 : Int32} {x3 : Int32} {x4 : Int32} (h : ((x3 ≤ x4 → Q (some (.int x3)) (hp I J (pm_RT pa pb ga))) ∧ (¬ (x3 ≤ x4) → Px k 176 m_Pl_coverageOf 0 [.ref 36, .ref 29, .int x1, .int x2, .int x4, .null, .null, .null] [] (hp I J (pm_RT pa pb ga)) (fun r h' => h'.1 = 176 ∧ Px (k + 1) 176 m_Ph_mount 60 [.ref 16, .int x1, .int x2, .int x3, .int x4] (r.toList ++ [.int x4, .ref 39]) h' Q)))) : Px (k + 1) 176 m_Ph_mount 33 [.ref 16, .int x1, .int x2, .int x3, .int x4] [] (hp I J (pm_RT pa pb ga)) Q := by
  refine x_l 35 rfl rfl rfl ?_
  refine x_l 36 rfl rfl rfl ?_
  refine x_b 39 rfl rfl rfl (fun c => ?_) (fun c => ?_)
  · have h := h.1 c
    refine x_l 77 rfl rfl rfl ?_
    exact x_ri rfl (Or.inl rfl) h
  · have h := h.2 c
    refine x_l 40 rfl rfl rfl ?_
    refine z_gf 43 (.ref 39) rfl ⟨rfl, rfl, rfl⟩ rfl rfl ?_
    refine x_l 45 rfl rfl rfl ?_
    refine x_l 46 rfl rfl rfl ?_
    refine z_gf 49 (.ref 36) rfl ⟨rfl, rfl, rfl⟩ rfl rfl ?_
    refine x_l 50 rfl rfl rfl ?_
    refine z_gf 53 (.ref 29) rfl ⟨rfl, rfl, rfl⟩ rfl rfl ?_
    refine x_l 54 rfl rfl rfl ?_
    refine x_l 55 rfl rfl rfl ?_
    refine x_l 57 rfl rfl rfl ?_
    exact z_cv (As := [.ref 29, .int x1, .int x2, .int x4]) (rest := [.int x4, .ref 39]) (b := 36) rfl at_Pl_coverageOf rfl rfl (Nat.le_of_ble_eq_true rfl) (Nat.le_of_ble_eq_true rfl) ⟨rfl, rfl, rfl⟩ (by decide) rfl h

theorem bk_Ph_mount_60 {k : Nat} {pa pb : Nat} {ga : Nat → Nat} {I : pm_II} {J : pm_JJ} {Q : Option Value → pm_H → Prop} {x1 : Int32} {x2 : Int32} {x3 : Int32} {x4 : Int32} {s1 : Int32} {s2 : Int32} (h : Px k 176 m_Fo_rows 0 [.ref 29] [] (hp I J (pm_RT pa pb ga)) (fun r h' => h'.1 = 176 ∧ Px (k + 1) 176 m_Ph_mount 67 [.ref 16, .int x1, .int x2, .int x3, .int x4] (r.toList ++ [.int s2, .int s1, .ref 39]) h' Q)) : Px (k + 1) 176 m_Ph_mount 60 [.ref 16, .int x1, .int x2, .int x3, .int x4] [.int s2, .int s1, .ref 39] (hp I J (pm_RT pa pb ga)) Q := by
  refine x_l 61 rfl rfl rfl ?_
  refine z_gf 64 (.ref 29) rfl ⟨rfl, rfl, rfl⟩ rfl rfl ?_
  exact z_cv (As := []) (rest := [.int s2, .int s1, .ref 39]) (b := 29) rfl at_Fo_rows rfl rfl (Nat.le_of_ble_eq_true rfl) (Nat.le_of_ble_eq_true rfl) ⟨rfl, rfl, rfl⟩ (by decide) rfl h

theorem bk_Ph_mount_67 {k : Nat} {pa pb : Nat} {ga : Nat → Nat} {I : pm_II} {J : pm_JJ} {Q : Option Value → pm_H → Prop} {x1 : Int32} {x2 : Int32} {x3 : Int32} {x4 : Int32} {s1 : Int32} {s2 : Int32} {s3 : Int32} (h : Px k 176 m_Pr_cover 0 [.ref 39, .int s1, .int s2, .int s3] [] (hp I J (pm_RT pa pb ga)) (fun r h' => h'.1 = 176 ∧ Px (k + 1) 176 m_Ph_mount 70 [.ref 16, .int x1, .int x2, .int x3, .int x4] (r.toList ++ []) h' Q)) : Px (k + 1) 176 m_Ph_mount 67 [.ref 16, .int x1, .int x2, .int x3, .int x4] [.int s3, .int s2, .int s1, .ref 39] (hp I J (pm_RT pa pb ga)) Q := by
  exact z_cv (As := [.int s1, .int s2, .int s3]) (rest := []) (b := 39) rfl at_Pr_cover rfl rfl (Nat.le_of_ble_eq_true rfl) (Nat.le_of_ble_eq_true rfl) ⟨rfl, rfl, rfl⟩ (by decide) rfl h

theorem bk_Ph_mount_70 {k : Nat} {pa pb : Nat} {ga : Nat → Nat} {I : pm_II} {J : pm_JJ} {Q : Option Value → pm_H → Prop} {x1 : Int32} {x2 : Int32} {x3 : Int32} {x4 : Int32} (h : Px (k + 1) 176 m_Ph_mount 33 [.ref 16, .int x1, .int x2, .int x3, .int (x4 + Int32.ofInt 1)] [] (hp I J (pm_RT pa pb ga)) Q) : Px (k + 1) 176 m_Ph_mount 70 [.ref 16, .int x1, .int x2, .int x3, .int x4] [] (hp I J (pm_RT pa pb ga)) Q := by
  refine x_t 73 rfl rfl rfl ?_
  refine x_g rfl ?_
  exact h

theorem bk_Ph_key_0 {k : Nat} {pa pb : Nat} {ga : Nat → Nat} {I : pm_II} {J : pm_JJ} {Q : Option Value → pm_H → Prop} {x1 : Int32} {x2 : Int32} (h : Px k 176 m_Pr_turnKey 0 [.ref 39, .int x1, .int x2, .null] [] (hp I J (pm_RT pa pb ga)) (fun r h' => h'.1 = 176 ∧ Px (k + 1) 176 m_Ph_key 9 [.ref 16, .int x1, .int x2] (r.toList ++ []) h' Q)) : Px (k + 1) 176 m_Ph_key 0 [.ref 16, .int x1, .int x2] [] (hp I J (pm_RT pa pb ga)) Q := by
  refine x_l 1 rfl rfl rfl ?_
  refine z_gf 4 (.ref 39) rfl ⟨rfl, rfl, rfl⟩ rfl rfl ?_
  refine x_l 5 rfl rfl rfl ?_
  refine x_l 6 rfl rfl rfl ?_
  exact z_cv (As := [.int x1, .int x2]) (rest := []) (b := 39) rfl at_Pr_turnKey rfl rfl (Nat.le_of_ble_eq_true rfl) (Nat.le_of_ble_eq_true rfl) ⟨rfl, rfl, rfl⟩ (by decide) rfl h

theorem bk_Ph_key_9 {k : Nat} {pa pb : Nat} {ga : Nat → Nat} {I : pm_II} {J : pm_JJ} {Q : Option Value → pm_H → Prop} {x1 : Int32} {x2 : Int32} {s0 : Int32} (h : Q (some (.int s0)) (hp I J (pm_RT pa pb ga))) : Px (k + 1) 176 m_Ph_key 9 [.ref 16, .int x1, .int x2] [.int s0] (hp I J (pm_RT pa pb ga)) Q := by
  exact x_ri rfl (Or.inl rfl) h

theorem bk_Ph_aim_0 {k : Nat} {pa pb : Nat} {ga : Nat → Nat} {I : pm_II} {J : pm_JJ} {Q : Option Value → pm_H → Prop} {x1 : Int32} {x2 : Int32} {x3 : Int32} (h : Px k 176 m_Pr_aimAt 0 [.ref 39, .int x1, .int x2, .int x3] [] (hp I J (pm_RT pa pb ga)) (fun r h' => h'.1 = 176 ∧ Px (k + 1) 176 m_Ph_aim 10 [.ref 16, .int x1, .int x2, .int x3] (r.toList ++ []) h' Q)) : Px (k + 1) 176 m_Ph_aim 0 [.ref 16, .int x1, .int x2, .int x3] [] (hp I J (pm_RT pa pb ga)) Q := by
  refine x_l 1 rfl rfl rfl ?_
  refine z_gf 4 (.ref 39) rfl ⟨rfl, rfl, rfl⟩ rfl rfl ?_
  refine x_l 5 rfl rfl rfl ?_
  refine x_l 6 rfl rfl rfl ?_
  refine x_l 7 rfl rfl rfl ?_
  exact z_cv (As := [.int x1, .int x2, .int x3]) (rest := []) (b := 39) rfl at_Pr_aimAt rfl rfl (Nat.le_of_ble_eq_true rfl) (Nat.le_of_ble_eq_true rfl) ⟨rfl, rfl, rfl⟩ (by decide) rfl h

theorem bk_Ph_aim_10 {k : Nat} {pa pb : Nat} {ga : Nat → Nat} {I : pm_II} {J : pm_JJ} {Q : Option Value → pm_H → Prop} {x1 : Int32} {x2 : Int32} {x3 : Int32} {s0 : Int32} (h : Q (some (.int s0)) (hp I J (pm_RT pa pb ga))) : Px (k + 1) 176 m_Ph_aim 10 [.ref 16, .int x1, .int x2, .int x3] [.int s0] (hp I J (pm_RT pa pb ga)) Q := by
  exact x_ri rfl (Or.inl rfl) h

theorem bk_Ph_settled_0 {k : Nat} {pa pb : Nat} {ga : Nat → Nat} {I : pm_II} {J : pm_JJ} {Q : Option Value → pm_H → Prop} {x1 : Int32} (h : Px k 176 m_Pr_settledKey 0 [.ref 39, .int x1, .null, .null, .null, .null] [] (hp I J (pm_RT pa pb ga)) (fun r h' => h'.1 = 176 ∧ Px (k + 1) 176 m_Ph_settled 8 [.ref 16, .int x1] (r.toList ++ []) h' Q)) : Px (k + 1) 176 m_Ph_settled 0 [.ref 16, .int x1] [] (hp I J (pm_RT pa pb ga)) Q := by
  refine x_l 1 rfl rfl rfl ?_
  refine z_gf 4 (.ref 39) rfl ⟨rfl, rfl, rfl⟩ rfl rfl ?_
  refine x_l 5 rfl rfl rfl ?_
  exact z_cv (As := [.int x1]) (rest := []) (b := 39) rfl at_Pr_settledKey rfl rfl (Nat.le_of_ble_eq_true rfl) (Nat.le_of_ble_eq_true rfl) ⟨rfl, rfl, rfl⟩ (by decide) rfl h

theorem bk_Ph_settled_8 {k : Nat} {pa pb : Nat} {ga : Nat → Nat} {I : pm_II} {J : pm_JJ} {Q : Option Value → pm_H → Prop} {x1 : Int32} {s0 : Int32} (h : Q (some (.int s0)) (hp I J (pm_RT pa pb ga))) : Px (k + 1) 176 m_Ph_settled 8 [.ref 16, .int x1] [.int s0] (hp I J (pm_RT pa pb ga)) Q := by
  exact x_ri rfl (Or.inl rfl) h

theorem bk_Ph_print_0 {k : Nat} {pa pb : Nat} {ga : Nat → Nat} {I : pm_II} {J : pm_JJ} {Q : Option Value → pm_H → Prop} {x1 : Int32} (h : Px k 176 m_Pr_printMany 0 [.ref 39, .int x1, .null, .null] [] (hp I J (pm_RT pa pb ga)) (fun r h' => h'.1 = 176 ∧ Px (k + 1) 176 m_Ph_print 8 [.ref 16, .int x1] (r.toList ++ []) h' Q)) : Px (k + 1) 176 m_Ph_print 0 [.ref 16, .int x1] [] (hp I J (pm_RT pa pb ga)) Q := by
  refine x_l 1 rfl rfl rfl ?_
  refine z_gf 4 (.ref 39) rfl ⟨rfl, rfl, rfl⟩ rfl rfl ?_
  refine x_l 5 rfl rfl rfl ?_
  exact z_cv (As := [.int x1]) (rest := []) (b := 39) rfl at_Pr_printMany rfl rfl (Nat.le_of_ble_eq_true rfl) (Nat.le_of_ble_eq_true rfl) ⟨rfl, rfl, rfl⟩ (by decide) rfl h

theorem bk_Ph_print_8 {k : Nat} {pa pb : Nat} {ga : Nat → Nat} {I : pm_II} {J : pm_JJ} {Q : Option Value → pm_H → Prop} {x1 : Int32} {s0 : Int32} (h : Q (some (.int s0)) (hp I J (pm_RT pa pb ga))) : Px (k + 1) 176 m_Ph_print 8 [.ref 16, .int x1] [.int s0] (hp I J (pm_RT pa pb ga)) Q := by
  exact x_ri rfl (Or.inl rfl) h

theorem bk_Ph_good_0 {k : Nat} {pa pb : Nat} {ga : Nat → Nat} {I : pm_II} {J : pm_JJ} {Q : Option Value → pm_H → Prop} {x1 : Int32} (h : Px k 176 m_Pr_printTill 0 [.ref 39, .int x1, .null, .null] [] (hp I J (pm_RT pa pb ga)) (fun r h' => h'.1 = 176 ∧ Px (k + 1) 176 m_Ph_good 8 [.ref 16, .int x1] (r.toList ++ []) h' Q)) : Px (k + 1) 176 m_Ph_good 0 [.ref 16, .int x1] [] (hp I J (pm_RT pa pb ga)) Q := by
  refine x_l 1 rfl rfl rfl ?_
  refine z_gf 4 (.ref 39) rfl ⟨rfl, rfl, rfl⟩ rfl rfl ?_
  refine x_l 5 rfl rfl rfl ?_
  exact z_cv (As := [.int x1]) (rest := []) (b := 39) rfl at_Pr_printTill rfl rfl (Nat.le_of_ble_eq_true rfl) (Nat.le_of_ble_eq_true rfl) ⟨rfl, rfl, rfl⟩ (by decide) rfl h

theorem bk_Ph_good_8 {k : Nat} {pa pb : Nat} {ga : Nat → Nat} {I : pm_II} {J : pm_JJ} {Q : Option Value → pm_H → Prop} {x1 : Int32} {s0 : Int32} (h : Q (some (.int s0)) (hp I J (pm_RT pa pb ga))) : Px (k + 1) 176 m_Ph_good 8 [.ref 16, .int x1] [.int s0] (hp I J (pm_RT pa pb ga)) Q := by
  exact x_ri rfl (Or.inl rfl) h

theorem bk_Ph_zone_0 {k : Nat} {pa pb : Nat} {ga : Nat → Nat} {I : pm_II} {J : pm_JJ} {Q : Option Value → pm_H → Prop} {x1 : Int32} {x2 : Int32} (h : Px k 176 m_Pr_tellZone 0 [.ref 39, .int x1, .int x2] [] (hp I J (pm_RT pa pb ga)) (fun r h' => h'.1 = 176 ∧ Px (k + 1) 176 m_Ph_zone 9 [.ref 16, .int x1, .int x2] (r.toList ++ []) h' Q)) : Px (k + 1) 176 m_Ph_zone 0 [.ref 16, .int x1, .int x2] [] (hp I J (pm_RT pa pb ga)) Q := by
  refine x_l 1 rfl rfl rfl ?_
  refine z_gf 4 (.ref 39) rfl ⟨rfl, rfl, rfl⟩ rfl rfl ?_
  refine x_l 5 rfl rfl rfl ?_
  refine x_l 6 rfl rfl rfl ?_
  exact z_cv (As := [.int x1, .int x2]) (rest := []) (b := 39) rfl at_Pr_tellZone rfl rfl (Nat.le_of_ble_eq_true rfl) (Nat.le_of_ble_eq_true rfl) ⟨rfl, rfl, rfl⟩ (by decide) rfl h

theorem bk_Ph_zone_9 {k : Nat} {pa pb : Nat} {ga : Nat → Nat} {I : pm_II} {J : pm_JJ} {Q : Option Value → pm_H → Prop} {x1 : Int32} {x2 : Int32} {s0 : Int32} (h : Q (some (.int s0)) (hp I J (pm_RT pa pb ga))) : Px (k + 1) 176 m_Ph_zone 9 [.ref 16, .int x1, .int x2] [.int s0] (hp I J (pm_RT pa pb ga)) Q := by
  exact x_ri rfl (Or.inl rfl) h

theorem bk_Ph_number_0 {k : Nat} {pa pb : Nat} {ga : Nat → Nat} {I : pm_II} {J : pm_JJ} {Q : Option Value → pm_H → Prop} {x1 : Int32} (h : Px k 176 m_Pr_numberOf 0 [.ref 39, .int x1, .null, .null, .null, .null] [] (hp I J (pm_RT pa pb ga)) (fun r h' => h'.1 = 176 ∧ Px (k + 1) 176 m_Ph_number 8 [.ref 16, .int x1] (r.toList ++ []) h' Q)) : Px (k + 1) 176 m_Ph_number 0 [.ref 16, .int x1] [] (hp I J (pm_RT pa pb ga)) Q := by
  refine x_l 1 rfl rfl rfl ?_
  refine z_gf 4 (.ref 39) rfl ⟨rfl, rfl, rfl⟩ rfl rfl ?_
  refine x_l 5 rfl rfl rfl ?_
  exact z_cv (As := [.int x1]) (rest := []) (b := 39) rfl at_Pr_numberOf rfl rfl (Nat.le_of_ble_eq_true rfl) (Nat.le_of_ble_eq_true rfl) ⟨rfl, rfl, rfl⟩ (by decide) rfl h

theorem bk_Ph_number_8 {k : Nat} {pa pb : Nat} {ga : Nat → Nat} {I : pm_II} {J : pm_JJ} {Q : Option Value → pm_H → Prop} {x1 : Int32} {s0 : Int32} (h : Q (some (.int s0)) (hp I J (pm_RT pa pb ga))) : Px (k + 1) 176 m_Ph_number 8 [.ref 16, .int x1] [.int s0] (hp I J (pm_RT pa pb ga)) Q := by
  exact x_ri rfl (Or.inl rfl) h

theorem bk_Ph_sorts_0 {k : Nat} {pa pb : Nat} {ga : Nat → Nat} {I : pm_II} {J : pm_JJ} {Q : Option Value → pm_H → Prop} {x1 : Int32} {x2 : Int32} {x3 : Int32} (h : Px k 176 m_Ty_stockUp 0 [.ref 48, .int x1, .int x2, .int x3] [] (hp I J (pm_RT pa pb ga)) (fun r h' => h'.1 = 176 ∧ Px (k + 1) 176 m_Ph_sorts 10 [.ref 16, .int x1, .int x2, .int x3] (r.toList ++ []) h' Q)) : Px (k + 1) 176 m_Ph_sorts 0 [.ref 16, .int x1, .int x2, .int x3] [] (hp I J (pm_RT pa pb ga)) Q := by
  refine x_l 1 rfl rfl rfl ?_
  refine z_gf 4 (.ref 48) rfl ⟨rfl, rfl, rfl⟩ rfl rfl ?_
  refine x_l 5 rfl rfl rfl ?_
  refine x_l 6 rfl rfl rfl ?_
  refine x_l 7 rfl rfl rfl ?_
  exact z_cv (As := [.int x1, .int x2, .int x3]) (rest := []) (b := 48) rfl at_Ty_stockUp rfl rfl (Nat.le_of_ble_eq_true rfl) (Nat.le_of_ble_eq_true rfl) ⟨rfl, rfl, rfl⟩ (by decide) rfl h

theorem bk_Ph_sorts_10 {k : Nat} {pa pb : Nat} {ga : Nat → Nat} {I : pm_II} {J : pm_JJ} {Q : Option Value → pm_H → Prop} {x1 : Int32} {x2 : Int32} {x3 : Int32} {s0 : Int32} (h : Q (some (.int s0)) (hp I J (pm_RT pa pb ga))) : Px (k + 1) 176 m_Ph_sorts 10 [.ref 16, .int x1, .int x2, .int x3] [.int s0] (hp I J (pm_RT pa pb ga)) Q := by
  exact x_ri rfl (Or.inl rfl) h

theorem bk_Ph_set_0 {k : Nat} {pa pb : Nat} {ga : Nat → Nat} {I : pm_II} {J : pm_JJ} {Q : Option Value → pm_H → Prop} {x1 : Int32} (h : ((x1 < 20 → Q (some (.int (-1))) (hp I J (pm_RT pa pb ga))) ∧ (¬ (x1 < 20) → ((x1 ≤ 200 → Px k 176 m_Ta_open 0 [.ref 17] [] (hp I J (pm_RT pa pb ga)) (fun r h' => h'.1 = 176 ∧ Px (k + 1) 176 m_Ph_set 22 [.ref 16, .int x1] (r.toList ++ []) h' Q)) ∧ (¬ (x1 ≤ 200) → Q (some (.int (-1))) (hp I J (pm_RT pa pb ga))))))) : Px (k + 1) 176 m_Ph_set 0 [.ref 16, .int x1] [] (hp I J (pm_RT pa pb ga)) Q := by
  refine x_l 1 rfl rfl rfl ?_
  refine z_k 3 20 rfl (by decide) rfl ?_
  refine x_b 6 rfl rfl rfl (fun c => ?_) (fun c => ?_)
  · have h := h.1 c
    refine z_k 14 (-1) rfl (by decide) rfl ?_
    exact x_ri rfl (Or.inl rfl) h
  · have h := h.2 c
    refine x_l 7 rfl rfl rfl ?_
    refine z_k 10 200 rfl (by decide) rfl ?_
    refine x_b 13 rfl rfl rfl (fun c => ?_) (fun c => ?_)
    · have h := h.1 c
      refine x_l 16 rfl rfl rfl ?_
      refine z_gf 19 (.ref 17) rfl ⟨rfl, rfl, rfl⟩ rfl rfl ?_
      exact z_cv (As := []) (rest := []) (b := 17) rfl at_Ta_open rfl rfl (Nat.le_of_ble_eq_true rfl) (Nat.le_of_ble_eq_true rfl) ⟨rfl, rfl, rfl⟩ (by decide) rfl h
    · have h := h.2 c
      refine z_k 14 (-1) rfl (by decide) rfl ?_
      exact x_ri rfl (Or.inl rfl) h

theorem bk_Ph_set_22 {k : Nat} {pa pb : Nat} {ga : Nat → Nat} {I : pm_II} {J : pm_JJ} {Q : Option Value → pm_H → Prop} {x1 : Int32} (h : Px k 176 m_Ty_takeText 0 [.ref 48, .ref 17, .int x1, .null, .null] [] (hp I J (pm_RT pa pb ga)) (fun r h' => h'.1 = 176 ∧ Px (k + 1) 176 m_Ph_set 38 [.ref 16, .int x1] (r.toList ++ [.ref 17]) h' Q)) : Px (k + 1) 176 m_Ph_set 22 [.ref 16, .int x1] [] (hp I J (pm_RT pa pb ga)) Q := by
  refine x_l 23 rfl rfl rfl ?_
  refine z_gf 26 (.ref 17) rfl ⟨rfl, rfl, rfl⟩ rfl rfl ?_
  refine x_l 27 rfl rfl rfl ?_
  refine z_gf 30 (.ref 48) rfl ⟨rfl, rfl, rfl⟩ rfl rfl ?_
  refine x_l 31 rfl rfl rfl ?_
  refine z_gf 34 (.ref 17) rfl ⟨rfl, rfl, rfl⟩ rfl rfl ?_
  refine x_l 35 rfl rfl rfl ?_
  exact z_cv (As := [.ref 17, .int x1]) (rest := [.ref 17]) (b := 48) rfl at_Ty_takeText rfl rfl (Nat.le_of_ble_eq_true rfl) (Nat.le_of_ble_eq_true rfl) ⟨rfl, rfl, rfl⟩ (by decide) rfl h

theorem bk_Ph_set_38 {k : Nat} {pa pb : Nat} {ga : Nat → Nat} {I : pm_II} {J : pm_JJ} {Q : Option Value → pm_H → Prop} {x1 : Int32} {s1 : Int32} (h : Px k 176 m_Ta_close 0 [.ref 17, .int s1] [] (hp I J (pm_RT pa pb ga)) (fun r h' => h'.1 = 176 ∧ Px (k + 1) 176 m_Ph_set 41 [.ref 16, .int x1] (r.toList ++ []) h' Q)) : Px (k + 1) 176 m_Ph_set 38 [.ref 16, .int x1] [.int s1, .ref 17] (hp I J (pm_RT pa pb ga)) Q := by
  exact z_cv (As := [.int s1]) (rest := []) (b := 17) rfl at_Ta_close rfl rfl (Nat.le_of_ble_eq_true rfl) (Nat.le_of_ble_eq_true rfl) ⟨rfl, rfl, rfl⟩ (by decide) rfl h

theorem bk_Ph_set_41 {k : Nat} {pa pb : Nat} {ga : Nat → Nat} {I : pm_II} {J : pm_JJ} {Q : Option Value → pm_H → Prop} {x1 : Int32} {s0 : Int32} (h : Q (some (.int s0)) (hp I J (pm_RT pa pb ga))) : Px (k + 1) 176 m_Ph_set 41 [.ref 16, .int x1] [.int s0] (hp I J (pm_RT pa pb ga)) Q := by
  exact x_ri rfl (Or.inl rfl) h

theorem bk_Ph_distribute_0 {k : Nat} {pa pb : Nat} {ga : Nat → Nat} {I : pm_II} {J : pm_JJ} {Q : Option Value → pm_H → Prop} {x1 : Int32} (h : Px k 176 m_Ty_putBack 0 [.ref 48, .int x1, .null, .null, .null] [] (hp I J (pm_RT pa pb ga)) (fun r h' => h'.1 = 176 ∧ Px (k + 1) 176 m_Ph_distribute 8 [.ref 16, .int x1] (r.toList ++ []) h' Q)) : Px (k + 1) 176 m_Ph_distribute 0 [.ref 16, .int x1] [] (hp I J (pm_RT pa pb ga)) Q := by
  refine x_l 1 rfl rfl rfl ?_
  refine z_gf 4 (.ref 48) rfl ⟨rfl, rfl, rfl⟩ rfl rfl ?_
  refine x_l 5 rfl rfl rfl ?_
  exact z_cv (As := [.int x1]) (rest := []) (b := 48) rfl at_Ty_putBack rfl rfl (Nat.le_of_ble_eq_true rfl) (Nat.le_of_ble_eq_true rfl) ⟨rfl, rfl, rfl⟩ (by decide) rfl h

theorem bk_Ph_distribute_8 {k : Nat} {pa pb : Nat} {ga : Nat → Nat} {I : pm_II} {J : pm_JJ} {Q : Option Value → pm_H → Prop} {x1 : Int32} {s0 : Int32} (h : Q (some (.int s0)) (hp I J (pm_RT pa pb ga))) : Px (k + 1) 176 m_Ph_distribute 8 [.ref 16, .int x1] [.int s0] (hp I J (pm_RT pa pb ga)) Q := by
  exact x_ri rfl (Or.inl rfl) h

theorem bk_Ph_line_0 {k : Nat} {pa pb : Nat} {ga : Nat → Nat} {I : pm_II} {J : pm_JJ} {Q : Option Value → pm_H → Prop} {x1 : Int32} {x2 : Int32} (h : Px k 176 m_Ty_tellLine 0 [.ref 48, .int x1, .int x2] [] (hp I J (pm_RT pa pb ga)) (fun r h' => h'.1 = 176 ∧ Px (k + 1) 176 m_Ph_line 9 [.ref 16, .int x1, .int x2] (r.toList ++ []) h' Q)) : Px (k + 1) 176 m_Ph_line 0 [.ref 16, .int x1, .int x2] [] (hp I J (pm_RT pa pb ga)) Q := by
  refine x_l 1 rfl rfl rfl ?_
  refine z_gf 4 (.ref 48) rfl ⟨rfl, rfl, rfl⟩ rfl rfl ?_
  refine x_l 5 rfl rfl rfl ?_
  refine x_l 6 rfl rfl rfl ?_
  exact z_cv (As := [.int x1, .int x2]) (rest := []) (b := 48) rfl at_Ty_tellLine rfl rfl (Nat.le_of_ble_eq_true rfl) (Nat.le_of_ble_eq_true rfl) ⟨rfl, rfl, rfl⟩ (by decide) rfl h

theorem bk_Ph_line_9 {k : Nat} {pa pb : Nat} {ga : Nat → Nat} {I : pm_II} {J : pm_JJ} {Q : Option Value → pm_H → Prop} {x1 : Int32} {x2 : Int32} {s0 : Int32} (h : Q (some (.int s0)) (hp I J (pm_RT pa pb ga))) : Px (k + 1) 176 m_Ph_line 9 [.ref 16, .int x1, .int x2] [.int s0] (hp I J (pm_RT pa pb ga)) Q := by
  exact x_ri rfl (Or.inl rfl) h

theorem bk_Ph_strip_0 {k : Nat} {pa pb : Nat} {ga : Nat → Nat} {I : pm_II} {J : pm_JJ} {Q : Option Value → pm_H → Prop} {x1 : Int32} {x2 : Int32} (h : Px k 176 m_Ty_tellStrip 0 [.ref 48, .int x1, .int x2] [] (hp I J (pm_RT pa pb ga)) (fun r h' => h'.1 = 176 ∧ Px (k + 1) 176 m_Ph_strip 9 [.ref 16, .int x1, .int x2] (r.toList ++ []) h' Q)) : Px (k + 1) 176 m_Ph_strip 0 [.ref 16, .int x1, .int x2] [] (hp I J (pm_RT pa pb ga)) Q := by
  refine x_l 1 rfl rfl rfl ?_
  refine z_gf 4 (.ref 48) rfl ⟨rfl, rfl, rfl⟩ rfl rfl ?_
  refine x_l 5 rfl rfl rfl ?_
  refine x_l 6 rfl rfl rfl ?_
  exact z_cv (As := [.int x1, .int x2]) (rest := []) (b := 48) rfl at_Ty_tellStrip rfl rfl (Nat.le_of_ble_eq_true rfl) (Nat.le_of_ble_eq_true rfl) ⟨rfl, rfl, rfl⟩ (by decide) rfl h

theorem bk_Ph_strip_9 {k : Nat} {pa pb : Nat} {ga : Nat → Nat} {I : pm_II} {J : pm_JJ} {Q : Option Value → pm_H → Prop} {x1 : Int32} {x2 : Int32} {s0 : Int32} (h : Q (some (.int s0)) (hp I J (pm_RT pa pb ga))) : Px (k + 1) 176 m_Ph_strip 9 [.ref 16, .int x1, .int x2] [.int s0] (hp I J (pm_RT pa pb ga)) Q := by
  exact x_ri rfl (Or.inl rfl) h

theorem bk_Ph_left_0 {k : Nat} {pa pb : Nat} {ga : Nat → Nat} {I : pm_II} {J : pm_JJ} {Q : Option Value → pm_H → Prop} {x1 : Int32} (h : Px k 176 m_Ty_stockOf 0 [.ref 48, .int x1] [] (hp I J (pm_RT pa pb ga)) (fun r h' => h'.1 = 176 ∧ Px (k + 1) 176 m_Ph_left 8 [.ref 16, .int x1] (r.toList ++ []) h' Q)) : Px (k + 1) 176 m_Ph_left 0 [.ref 16, .int x1] [] (hp I J (pm_RT pa pb ga)) Q := by
  refine x_l 1 rfl rfl rfl ?_
  refine z_gf 4 (.ref 48) rfl ⟨rfl, rfl, rfl⟩ rfl rfl ?_
  refine x_l 5 rfl rfl rfl ?_
  exact z_cv (As := [.int x1]) (rest := []) (b := 48) rfl at_Ty_stockOf rfl rfl (Nat.le_of_ble_eq_true rfl) (Nat.le_of_ble_eq_true rfl) ⟨rfl, rfl, rfl⟩ (by decide) rfl h

theorem bk_Ph_left_8 {k : Nat} {pa pb : Nat} {ga : Nat → Nat} {I : pm_II} {J : pm_JJ} {Q : Option Value → pm_H → Prop} {x1 : Int32} {s0 : Int32} (h : Q (some (.int s0)) (hp I J (pm_RT pa pb ga))) : Px (k + 1) 176 m_Ph_left 8 [.ref 16, .int x1] [.int s0] (hp I J (pm_RT pa pb ga)) Q := by
  exact x_ri rfl (Or.inl rfl) h

theorem bk_Ph_pile_0 {k : Nat} {pa pb : Nat} {ga : Nat → Nat} {I : pm_II} {J : pm_JJ} {Q : Option Value → pm_H → Prop} {x1 : Int32} {x2 : Int32} (h : ((x1 < 1 → Q (some (.int (-1))) (hp I J (pm_RT pa pb ga))) ∧ (¬ (x1 < 1) → ((999 < x1 → Q (some (.int (-1))) (hp I J (pm_RT pa pb ga))) ∧ (¬ (999 < x1) → ((x2 < 1 → Q (some (.int (-1))) (hp I J (pm_RT pa pb ga))) ∧ (¬ (x2 < 1) → ((x2 ≤ 999 → Px k 176 m_Ta_open 0 [.ref 17] [] (hp I J (pm_RT pa pb ga)) (fun r h' => h'.1 = 176 ∧ Px (k + 1) 176 m_Ph_pile 33 [.ref 16, .int x1, .int x2, .null, .null] (r.toList ++ []) h' Q)) ∧ (¬ (x2 ≤ 999) → Q (some (.int (-1))) (hp I J (pm_RT pa pb ga))))))))))) : Px (k + 1) 176 m_Ph_pile 0 [.ref 16, .int x1, .int x2, .null, .null] [] (hp I J (pm_RT pa pb ga)) Q := by
  refine x_l 1 rfl rfl rfl ?_
  refine z_k 2 1 rfl (by decide) rfl ?_
  refine x_b 5 rfl rfl rfl (fun c => ?_) (fun c => ?_)
  · have h := h.1 c
    refine z_k 25 (-1) rfl (by decide) rfl ?_
    exact x_ri rfl (Or.inl rfl) h
  · have h := h.2 c
    refine x_l 6 rfl rfl rfl ?_
    refine z_k 9 999 rfl (by decide) rfl ?_
    refine x_b 12 rfl rfl rfl (fun c => ?_) (fun c => ?_)
    · have h := h.1 c
      refine z_k 25 (-1) rfl (by decide) rfl ?_
      exact x_ri rfl (Or.inl rfl) h
    · have h := h.2 c
      refine x_l 13 rfl rfl rfl ?_
      refine z_k 14 1 rfl (by decide) rfl ?_
      refine x_b 17 rfl rfl rfl (fun c => ?_) (fun c => ?_)
      · have h := h.1 c
        refine z_k 25 (-1) rfl (by decide) rfl ?_
        exact x_ri rfl (Or.inl rfl) h
      · have h := h.2 c
        refine x_l 18 rfl rfl rfl ?_
        refine z_k 21 999 rfl (by decide) rfl ?_
        refine x_b 24 rfl rfl rfl (fun c => ?_) (fun c => ?_)
        · have h := h.1 c
          refine x_l 27 rfl rfl rfl ?_
          refine z_gf 30 (.ref 17) rfl ⟨rfl, rfl, rfl⟩ rfl rfl ?_
          exact z_cv (As := []) (rest := []) (b := 17) rfl at_Ta_open rfl rfl (Nat.le_of_ble_eq_true rfl) (Nat.le_of_ble_eq_true rfl) ⟨rfl, rfl, rfl⟩ (by decide) rfl h
        · have h := h.2 c
          refine z_k 25 (-1) rfl (by decide) rfl ?_
          exact x_ri rfl (Or.inl rfl) h

theorem bk_Ph_pile_33 {k : Nat} {pa pb : Nat} {ga : Nat → Nat} {I : pm_II} {J : pm_JJ} {Q : Option Value → pm_H → Prop} {x1 : Int32} {x2 : Int32} (h : pm_ob pb 3 ∧ Px k 176 m_Pi_takeText 0 [.ref pb, .ref 17, .int x1, .int x2, .null] [] (hp I J (pm_RT pa pb ga)) (fun r h' => h'.1 = 176 ∧ Px (k + 1) 176 m_Ph_pile 46 [.ref 16, .int x1, .int x2, .null, .null] (r.toList ++ []) h' Q)) : Px (k + 1) 176 m_Ph_pile 33 [.ref 16, .int x1, .int x2, .null, .null] [] (hp I J (pm_RT pa pb ga)) Q := by
  refine x_l 34 rfl rfl rfl ?_
  refine z_gf 37 (.ref pb) rfl ⟨rfl, rfl, rfl⟩ rfl rfl ?_
  refine x_l 38 rfl rfl rfl ?_
  refine z_gf 41 (.ref 17) rfl ⟨rfl, rfl, rfl⟩ rfl rfl ?_
  refine x_l 42 rfl rfl rfl ?_
  refine x_l 43 rfl rfl rfl ?_
  have h0 := h.1
  have h := h.2
  exact z_cv (As := [.ref 17, .int x1, .int x2]) (rest := []) (b := pb) rfl at_Pi_takeText rfl rfl (Nat.le_of_ble_eq_true rfl) (Nat.le_of_ble_eq_true rfl) h0 (by decide) rfl h

theorem bk_Ph_pile_46 {k : Nat} {pa pb : Nat} {ga : Nat → Nat} {I : pm_II} {J : pm_JJ} {Q : Option Value → pm_H → Prop} {x1 : Int32} {x2 : Int32} {s0 : Int32} (h : Px k 176 m_Ta_isRight 0 [.ref 17] [] (hp I J (pm_RT pa pb ga)) (fun r h' => h'.1 = 176 ∧ Px (k + 1) 176 m_Ph_pile 54 [.ref 16, .int x1, .int x2, .int s0, .null] (r.toList ++ []) h' Q)) : Px (k + 1) 176 m_Ph_pile 46 [.ref 16, .int x1, .int x2, .null, .null] [.int s0] (hp I J (pm_RT pa pb ga)) Q := by
  refine x_t 47 rfl rfl rfl ?_
  refine x_l 48 rfl rfl rfl ?_
  refine z_gf 51 (.ref 17) rfl ⟨rfl, rfl, rfl⟩ rfl rfl ?_
  exact z_cv (As := []) (rest := []) (b := 17) rfl at_Ta_isRight rfl rfl (Nat.le_of_ble_eq_true rfl) (Nat.le_of_ble_eq_true rfl) ⟨rfl, rfl, rfl⟩ (by decide) rfl h

theorem bk_Ph_pile_54 {k : Nat} {pa pb : Nat} {ga : Nat → Nat} {I : pm_II} {J : pm_JJ} {Q : Option Value → pm_H → Prop} {x1 : Int32} {x2 : Int32} {x3 : Int32} {s0 : Int32} (h : ((s0 = 0 → Px (k + 1) 176 m_Ph_pile 77 [.ref 16, .int x1, .int x2, .int x3, .null] [] (hp I J (pm_RT pa pb ga)) Q) ∧ (¬ (s0 = 0) → Px (k + 1) 176 m_Ph_pile 77 [.ref 16, .int x1, .int x2, .int x3, .ref pb] [] (hp I J (pm_up (pm_up (pm_RT pa pb ga) 16 10 (.ref pa)) 16 9 (.ref pb))) Q))) : Px (k + 1) 176 m_Ph_pile 54 [.ref 16, .int x1, .int x2, .int x3, .null] [.int s0] (hp I J (pm_RT pa pb ga)) Q := by
  refine x_b 57 rfl rfl rfl (fun c => ?_) (fun c => ?_)
  · have h := h.1 c
    exact h
  · have h := h.2 c
    refine x_l 58 rfl rfl rfl ?_
    refine z_gf 61 (.ref pb) rfl ⟨rfl, rfl, rfl⟩ rfl rfl ?_
    refine x_t 63 rfl rfl rfl ?_
    refine x_l 64 rfl rfl rfl ?_
    refine x_l 65 rfl rfl rfl ?_
    refine z_gf 68 (.ref pa) rfl ⟨rfl, rfl, rfl⟩ rfl rfl ?_
    refine z_pr 71 rfl ⟨rfl, rfl, rfl⟩ (fun z => by cases z) rfl ?_
    refine x_l 72 rfl rfl rfl ?_
    refine x_l 74 rfl rfl rfl ?_
    refine z_pr 77 rfl ⟨rfl, rfl, rfl⟩ (fun z => by cases z) rfl ?_
    exact h

theorem bk_Ph_pile_77 {k : Nat} {pa pb : Nat} {ga : Nat → Nat} {I : pm_II} {J : pm_JJ} {Q : Option Value → pm_H → Prop} {x1 : Int32} {x2 : Int32} {x3 : Int32} (h : Px k 176 m_Ta_close 0 [.ref 17, .int x3] [] (hp I J (pm_RT pa pb ga)) (fun r h' => h'.1 = 176 ∧ Px (k + 1) 176 m_Ph_pile 85 [.ref 16, .int x1, .int x2, .int x3, .null] (r.toList ++ []) h' Q)) : Px (k + 1) 176 m_Ph_pile 77 [.ref 16, .int x1, .int x2, .int x3, .null] [] (hp I J (pm_RT pa pb ga)) Q := by
  refine x_l 78 rfl rfl rfl ?_
  refine z_gf 81 (.ref 17) rfl ⟨rfl, rfl, rfl⟩ rfl rfl ?_
  refine x_l 82 rfl rfl rfl ?_
  exact z_cv (As := [.int x3]) (rest := []) (b := 17) rfl at_Ta_close rfl rfl (Nat.le_of_ble_eq_true rfl) (Nat.le_of_ble_eq_true rfl) ⟨rfl, rfl, rfl⟩ (by decide) rfl h

theorem bk_Ph_pile_85 {k : Nat} {pa pb : Nat} {ga : Nat → Nat} {I : pm_II} {J : pm_JJ} {Q : Option Value → pm_H → Prop} {x1 : Int32} {x2 : Int32} {x3 : Int32} {s0 : Int32} (h : Q (some (.int s0)) (hp I J (pm_RT pa pb ga))) : Px (k + 1) 176 m_Ph_pile 85 [.ref 16, .int x1, .int x2, .int x3, .null] [.int s0] (hp I J (pm_RT pa pb ga)) Q := by
  exact x_ri rfl (Or.inl rfl) h

theorem bk_Ph_piece_0 {k : Nat} {pa pb : Nat} {ga : Nat → Nat} {I : pm_II} {J : pm_JJ} {Q : Option Value → pm_H → Prop} {x1 : Int32} {x2 : Int32} (h : pm_ob pa 3 ∧ Px k 176 m_Pi_tell 0 [.ref pa, .int x1, .int x2] [] (hp I J (pm_RT pa pb ga)) (fun r h' => h'.1 = 176 ∧ Px (k + 1) 176 m_Ph_piece 9 [.ref 16, .int x1, .int x2] (r.toList ++ []) h' Q)) : Px (k + 1) 176 m_Ph_piece 0 [.ref 16, .int x1, .int x2] [] (hp I J (pm_RT pa pb ga)) Q := by
  refine x_l 1 rfl rfl rfl ?_
  refine z_gf 4 (.ref pa) rfl ⟨rfl, rfl, rfl⟩ rfl rfl ?_
  refine x_l 5 rfl rfl rfl ?_
  refine x_l 6 rfl rfl rfl ?_
  have h0 := h.1
  have h := h.2
  exact z_cv (As := [.int x1, .int x2]) (rest := []) (b := pa) rfl at_Pi_tell rfl rfl (Nat.le_of_ble_eq_true rfl) (Nat.le_of_ble_eq_true rfl) h0 (by decide) rfl h

theorem bk_Ph_piece_9 {k : Nat} {pa pb : Nat} {ga : Nat → Nat} {I : pm_II} {J : pm_JJ} {Q : Option Value → pm_H → Prop} {x1 : Int32} {x2 : Int32} {s0 : Int32} (h : Q (some (.int s0)) (hp I J (pm_RT pa pb ga))) : Px (k + 1) 176 m_Ph_piece 9 [.ref 16, .int x1, .int x2] [.int s0] (hp I J (pm_RT pa pb ga)) Q := by
  exact x_ri rfl (Or.inl rfl) h

theorem bk_Ph_on_0 {k : Nat} {pa pb : Nat} {ga : Nat → Nat} {I : pm_II} {J : pm_JJ} {Q : Option Value → pm_H → Prop} {x1 : Int32} {x2 : Int32} (h : pm_ob pa 3 ∧ Px k 176 m_Pi_pieceAt 0 [.ref pa, .int x1, .int x2, .null, .null] [] (hp I J (pm_RT pa pb ga)) (fun r h' => h'.1 = 176 ∧ Px (k + 1) 176 m_Ph_on 9 [.ref 16, .int x1, .int x2] (r.toList ++ []) h' Q)) : Px (k + 1) 176 m_Ph_on 0 [.ref 16, .int x1, .int x2] [] (hp I J (pm_RT pa pb ga)) Q := by
  refine x_l 1 rfl rfl rfl ?_
  refine z_gf 4 (.ref pa) rfl ⟨rfl, rfl, rfl⟩ rfl rfl ?_
  refine x_l 5 rfl rfl rfl ?_
  refine x_l 6 rfl rfl rfl ?_
  have h0 := h.1
  have h := h.2
  exact z_cv (As := [.int x1, .int x2]) (rest := []) (b := pa) rfl at_Pi_pieceAt rfl rfl (Nat.le_of_ble_eq_true rfl) (Nat.le_of_ble_eq_true rfl) h0 (by decide) rfl h

theorem bk_Ph_on_9 {k : Nat} {pa pb : Nat} {ga : Nat → Nat} {I : pm_II} {J : pm_JJ} {Q : Option Value → pm_H → Prop} {x1 : Int32} {x2 : Int32} {s0 : Int32} (h : Q (some (.int s0)) (hp I J (pm_RT pa pb ga))) : Px (k + 1) 176 m_Ph_on 9 [.ref 16, .int x1, .int x2] [.int s0] (hp I J (pm_RT pa pb ga)) Q := by
  exact x_ri rfl (Or.inl rfl) h

theorem bk_Ph_gather_0 {k : Nat} {pa pb : Nat} {ga : Nat → Nat} {I : pm_II} {J : pm_JJ} {Q : Option Value → pm_H → Prop} (h : Px k 176 m_Ta_open 0 [.ref 17] [] (hp I J (pm_RT pa pb ga)) (fun r h' => h'.1 = 176 ∧ Px (k + 1) 176 m_Ph_gather 7 [.ref 16, .null, .null, .null, .null] (r.toList ++ []) h' Q)) : Px (k + 1) 176 m_Ph_gather 0 [.ref 16, .null, .null, .null, .null] [] (hp I J (pm_RT pa pb ga)) Q := by
  refine x_l 1 rfl rfl rfl ?_
  refine z_gf 4 (.ref 17) rfl ⟨rfl, rfl, rfl⟩ rfl rfl ?_
  exact z_cv (As := []) (rest := []) (b := 17) rfl at_Ta_open rfl rfl (Nat.le_of_ble_eq_true rfl) (Nat.le_of_ble_eq_true rfl) ⟨rfl, rfl, rfl⟩ (by decide) rfl h

theorem bk_Ph_gather_7 {k : Nat} {pa pb : Nat} {ga : Nat → Nat} {I : pm_II} {J : pm_JJ} {Q : Option Value → pm_H → Prop} (h : Px k 176 m_Fo_sheets 0 [.ref 29] [] (hp I J (pm_RT pa pb ga)) (fun r h' => h'.1 = 176 ∧ Px (k + 1) 176 m_Ph_gather 14 [.ref 16, .null, .null, .null, .null] (r.toList ++ []) h' Q)) : Px (k + 1) 176 m_Ph_gather 7 [.ref 16, .null, .null, .null, .null] [] (hp I J (pm_RT pa pb ga)) Q := by
  refine x_l 8 rfl rfl rfl ?_
  refine z_gf 11 (.ref 29) rfl ⟨rfl, rfl, rfl⟩ rfl rfl ?_
  exact z_cv (As := []) (rest := []) (b := 29) rfl at_Fo_sheets rfl rfl (Nat.le_of_ble_eq_true rfl) (Nat.le_of_ble_eq_true rfl) ⟨rfl, rfl, rfl⟩ (by decide) rfl h

theorem bk_Ph_gather_14 {k : Nat} {pa pb : Nat} {ga : Nat → Nat} {I : pm_II} {J : pm_JJ} {Q : Option Value → pm_H → Prop} {s0 : Int32} (h : Px (k + 1) 176 m_Ph_gather 19 [.ref 16, .int s0, .int 0, .int 0, .null] [] (hp I J (pm_RT pa pb ga)) Q) : Px (k + 1) 176 m_Ph_gather 14 [.ref 16, .null, .null, .null, .null] [.int s0] (hp I J (pm_RT pa pb ga)) Q := by
  refine x_t 15 rfl rfl rfl ?_
  refine z_k 16 0 rfl (by decide) rfl ?_
  refine x_t 17 rfl rfl rfl ?_
  refine z_k 18 0 rfl (by decide) rfl ?_
  refine x_t 19 rfl rfl rfl ?_
  exact h

theorem bk_Ph_gather_19 {k : Nat} {pa pb : Nat} {ga : Nat → Nat} {I : pm_II} {J : pm_JJ} {Q : Option Value → pm_H → Prop} {x1 : Int32} {x2 : Int32} {x3 : Int32} (h : Px k 176 m_Ta_readNumber 0 [.ref 17, .int 1, .int 8, .null, .null, .null] [] (hp I J (pm_RT pa pb ga)) (fun r h' => h'.1 = 176 ∧ Px (k + 1) 176 m_Ph_gather 32 [.ref 16, .int x1, .int (x2 + Int32.ofInt 1), .int x3, .null] (r.toList ++ []) h' Q)) : Px (k + 1) 176 m_Ph_gather 19 [.ref 16, .int x1, .int x2, .int x3, .null] [] (hp I J (pm_RT pa pb ga)) Q := by
  refine x_t 22 rfl rfl rfl ?_
  refine x_l 23 rfl rfl rfl ?_
  refine z_gf 26 (.ref 17) rfl ⟨rfl, rfl, rfl⟩ rfl rfl ?_
  refine z_k 27 1 rfl (by decide) rfl ?_
  refine z_k 29 8 rfl (by decide) rfl ?_
  exact z_cv (As := [.int 1, .int 8]) (rest := []) (b := 17) rfl at_Ta_readNumber rfl rfl (Nat.le_of_ble_eq_true rfl) (Nat.le_of_ble_eq_true rfl) ⟨rfl, rfl, rfl⟩ (by decide) rfl h

theorem bk_Ph_gather_32 {k : Nat} {pa pb : Nat} {ga : Nat → Nat} {I : pm_II} {J : pm_JJ} {Q : Option Value → pm_H → Prop} {x1 : Int32} {x2 : Int32} {x3 : Int32} {s0 : Int32} (h : ((¬ x3 = 0 → Px (k + 1) 176 m_Ph_gather 51 [.ref 16, .int x1, .int x2, .int x3, .int s0] [] (hp I J (pm_RT pa pb ga)) Q) ∧ (¬ (¬ x3 = 0) → ((x1 < x2 → Px (k + 1) 176 m_Ph_gather 51 [.ref 16, .int x1, .int x2, .int x2, .int s0] [] (hp I J (pm_RT pa pb ga)) Q) ∧ (¬ (x1 < x2) → ((s0 = x2 → Px (k + 1) 176 m_Ph_gather 51 [.ref 16, .int x1, .int x2, .int x3, .int s0] [] (hp I J (pm_RT pa pb ga)) Q) ∧ (¬ (s0 = x2) → Px (k + 1) 176 m_Ph_gather 51 [.ref 16, .int x1, .int x2, .int x2, .int s0] [] (hp I J (pm_RT pa pb ga)) Q))))))) : Px (k + 1) 176 m_Ph_gather 32 [.ref 16, .int x1, .int x2, .int x3, .null] [.int s0] (hp I J (pm_RT pa pb ga)) Q := by
  refine x_t 34 rfl rfl rfl ?_
  refine x_l 35 rfl rfl rfl ?_
  refine x_b 38 rfl rfl rfl (fun c => ?_) (fun c => ?_)
  · have h := h.1 c
    exact h
  · have h := h.2 c
    refine x_l 39 rfl rfl rfl ?_
    refine x_l 40 rfl rfl rfl ?_
    refine x_b 43 rfl rfl rfl (fun c => ?_) (fun c => ?_)
    · have h := h.1 c
      refine x_l 50 rfl rfl rfl ?_
      refine x_t 51 rfl rfl rfl ?_
      exact h
    · have h := h.2 c
      refine x_l 45 rfl rfl rfl ?_
      refine x_l 46 rfl rfl rfl ?_
      refine x_b 49 rfl rfl rfl (fun c => ?_) (fun c => ?_)
      · have h := h.1 c
        exact h
      · have h := h.2 c
        refine x_l 50 rfl rfl rfl ?_
        refine x_t 51 rfl rfl rfl ?_
        exact h

theorem bk_Ph_gather_51 {k : Nat} {pa pb : Nat} {ga : Nat → Nat} {I : pm_II} {J : pm_JJ} {Q : Option Value → pm_H → Prop} {x1 : Int32} {x2 : Int32} {x3 : Int32} {x4 : Int32} (h : ((20 ≤ x2 → Px (k + 1) 176 m_Ph_gather 69 [.ref 16, .int x1, .int x2, .int x3, .int x4] [] (hp I J (pm_RT pa pb ga)) Q) ∧ (¬ (20 ≤ x2) → Px k 176 m_Ta_takes 0 [.ref 17, .int 32] [] (hp I J (pm_RT pa pb ga)) (fun r h' => h'.1 = 176 ∧ Px (k + 1) 176 m_Ph_gather 66 [.ref 16, .int x1, .int x2, .int x3, .int x4] (r.toList ++ []) h' Q)))) : Px (k + 1) 176 m_Ph_gather 51 [.ref 16, .int x1, .int x2, .int x3, .int x4] [] (hp I J (pm_RT pa pb ga)) Q := by
  refine x_l 52 rfl rfl rfl ?_
  refine z_k 54 20 rfl (by decide) rfl ?_
  refine x_b 57 rfl rfl rfl (fun c => ?_) (fun c => ?_)
  · have h := h.1 c
    exact h
  · have h := h.2 c
    refine x_l 58 rfl rfl rfl ?_
    refine z_gf 61 (.ref 17) rfl ⟨rfl, rfl, rfl⟩ rfl rfl ?_
    refine z_k 63 32 rfl (by decide) rfl ?_
    exact z_cv (As := [.int 32]) (rest := []) (b := 17) rfl at_Ta_takes rfl rfl (Nat.le_of_ble_eq_true rfl) (Nat.le_of_ble_eq_true rfl) ⟨rfl, rfl, rfl⟩ (by decide) rfl h

theorem bk_Ph_gather_66 {k : Nat} {pa pb : Nat} {ga : Nat → Nat} {I : pm_II} {J : pm_JJ} {Q : Option Value → pm_H → Prop} {x1 : Int32} {x2 : Int32} {x3 : Int32} {x4 : Int32} {s0 : Int32} (h : ((¬ s0 = 0 → Px (k + 1) 176 m_Ph_gather 19 [.ref 16, .int x1, .int x2, .int x3, .int x4] [] (hp I J (pm_RT pa pb ga)) Q) ∧ (¬ (¬ s0 = 0) → Px (k + 1) 176 m_Ph_gather 69 [.ref 16, .int x1, .int x2, .int x3, .int x4] [] (hp I J (pm_RT pa pb ga)) Q))) : Px (k + 1) 176 m_Ph_gather 66 [.ref 16, .int x1, .int x2, .int x3, .int x4] [.int s0] (hp I J (pm_RT pa pb ga)) Q := by
  refine x_b 69 rfl rfl rfl (fun c => ?_) (fun c => ?_)
  · have h := h.1 c
    exact h
  · have h := h.2 c
    exact h

theorem bk_Ph_gather_69 {k : Nat} {pa pb : Nat} {ga : Nat → Nat} {I : pm_II} {J : pm_JJ} {Q : Option Value → pm_H → Prop} {x1 : Int32} {x2 : Int32} {x3 : Int32} {x4 : Int32} (h : Px k 176 m_Ta_expect 0 [.ref 17, .int 10] [] (hp I J (pm_RT pa pb ga)) (fun r h' => h'.1 = 176 ∧ Px (k + 1) 176 m_Ph_gather 78 [.ref 16, .int x1, .int x2, .int x3, .int x4] (r.toList ++ []) h' Q)) : Px (k + 1) 176 m_Ph_gather 69 [.ref 16, .int x1, .int x2, .int x3, .int x4] [] (hp I J (pm_RT pa pb ga)) Q := by
  refine x_l 70 rfl rfl rfl ?_
  refine z_gf 73 (.ref 17) rfl ⟨rfl, rfl, rfl⟩ rfl rfl ?_
  refine z_k 75 10 rfl (by decide) rfl ?_
  exact z_cv (As := [.int 10]) (rest := []) (b := 17) rfl at_Ta_expect rfl rfl (Nat.le_of_ble_eq_true rfl) (Nat.le_of_ble_eq_true rfl) ⟨rfl, rfl, rfl⟩ (by decide) rfl h

theorem bk_Ph_gather_78 {k : Nat} {pa pb : Nat} {ga : Nat → Nat} {I : pm_II} {J : pm_JJ} {Q : Option Value → pm_H → Prop} {x1 : Int32} {x2 : Int32} {x3 : Int32} {x4 : Int32} (h : Px k 176 m_Ta_finish 0 [.ref 17] [] (hp I J (pm_RT pa pb ga)) (fun r h' => h'.1 = 176 ∧ Px (k + 1) 176 m_Ph_gather 85 [.ref 16, .int x1, .int x2, .int x3, .int x4] (r.toList ++ []) h' Q)) : Px (k + 1) 176 m_Ph_gather 78 [.ref 16, .int x1, .int x2, .int x3, .int x4] [] (hp I J (pm_RT pa pb ga)) Q := by
  refine x_l 79 rfl rfl rfl ?_
  refine z_gf 82 (.ref 17) rfl ⟨rfl, rfl, rfl⟩ rfl rfl ?_
  exact z_cv (As := []) (rest := []) (b := 17) rfl at_Ta_finish rfl rfl (Nat.le_of_ble_eq_true rfl) (Nat.le_of_ble_eq_true rfl) ⟨rfl, rfl, rfl⟩ (by decide) rfl h

theorem bk_Ph_gather_85 {k : Nat} {pa pb : Nat} {ga : Nat → Nat} {I : pm_II} {J : pm_JJ} {Q : Option Value → pm_H → Prop} {x1 : Int32} {x2 : Int32} {x3 : Int32} {x4 : Int32} (h : ((¬ x3 = 0 → Px (k + 1) 176 m_Ph_gather 98 [.ref 16, .int x1, .int x2, .int x3, .int x4] [] (hp I J (pm_RT pa pb ga)) Q) ∧ (¬ (¬ x3 = 0) → ((x1 ≤ x2 → Px (k + 1) 176 m_Ph_gather 98 [.ref 16, .int x1, .int x2, .int x3, .int x4] [] (hp I J (pm_RT pa pb ga)) Q) ∧ (¬ (x1 ≤ x2) → Px (k + 1) 176 m_Ph_gather 98 [.ref 16, .int x1, .int x2, .int (x2 + (1 : Int32)), .int x4] [] (hp I J (pm_RT pa pb ga)) Q))))) : Px (k + 1) 176 m_Ph_gather 85 [.ref 16, .int x1, .int x2, .int x3, .int x4] [] (hp I J (pm_RT pa pb ga)) Q := by
  refine x_l 86 rfl rfl rfl ?_
  refine x_b 89 rfl rfl rfl (fun c => ?_) (fun c => ?_)
  · have h := h.1 c
    exact h
  · have h := h.2 c
    refine x_l 90 rfl rfl rfl ?_
    refine x_l 91 rfl rfl rfl ?_
    refine x_b 94 rfl rfl rfl (fun c => ?_) (fun c => ?_)
    · have h := h.1 c
      exact h
    · have h := h.2 c
      refine x_l 95 rfl rfl rfl ?_
      refine z_k 96 1 rfl (by decide) rfl ?_
      refine x_s 97 rfl rfl rfl ?_
      refine x_t 98 rfl rfl rfl ?_
      exact h

theorem bk_Ph_gather_98 {k : Nat} {pa pb : Nat} {ga : Nat → Nat} {I : pm_II} {J : pm_JJ} {Q : Option Value → pm_H → Prop} {x1 : Int32} {x2 : Int32} {x3 : Int32} {x4 : Int32} (h : Px k 176 m_Ta_close 0 [.ref 17, .int x3] [] (hp I J (pm_RT pa pb ga)) (fun r h' => h'.1 = 176 ∧ Px (k + 1) 176 m_Ph_gather 106 [.ref 16, .int x1, .int x2, .int x3, .int x4] (r.toList ++ []) h' Q)) : Px (k + 1) 176 m_Ph_gather 98 [.ref 16, .int x1, .int x2, .int x3, .int x4] [] (hp I J (pm_RT pa pb ga)) Q := by
  refine x_l 99 rfl rfl rfl ?_
  refine z_gf 102 (.ref 17) rfl ⟨rfl, rfl, rfl⟩ rfl rfl ?_
  refine x_l 103 rfl rfl rfl ?_
  exact z_cv (As := [.int x3]) (rest := []) (b := 17) rfl at_Ta_close rfl rfl (Nat.le_of_ble_eq_true rfl) (Nat.le_of_ble_eq_true rfl) ⟨rfl, rfl, rfl⟩ (by decide) rfl h

theorem bk_Ph_gather_106 {k : Nat} {pa pb : Nat} {ga : Nat → Nat} {I : pm_II} {J : pm_JJ} {Q : Option Value → pm_H → Prop} {x1 : Int32} {x2 : Int32} {x3 : Int32} {x4 : Int32} {s0 : Int32} (h : Q (some (.int s0)) (hp I J (pm_RT pa pb ga))) : Px (k + 1) 176 m_Ph_gather 106 [.ref 16, .int x1, .int x2, .int x3, .int x4] [.int s0] (hp I J (pm_RT pa pb ga)) Q := by
  exact x_ri rfl (Or.inl rfl) h

theorem bk_Ph_letters_0 {k : Nat} {pa pb : Nat} {ga : Nat → Nat} {I : pm_II} {J : pm_JJ} {Q : Option Value → pm_H → Prop} (h : Px k 176 m_Ta_open 0 [.ref 17] [] (hp I J (pm_RT pa pb ga)) (fun r h' => h'.1 = 176 ∧ Px (k + 1) 176 m_Ph_letters 7 [.ref 16, .null] (r.toList ++ []) h' Q)) : Px (k + 1) 176 m_Ph_letters 0 [.ref 16, .null] [] (hp I J (pm_RT pa pb ga)) Q := by
  refine x_l 1 rfl rfl rfl ?_
  refine z_gf 4 (.ref 17) rfl ⟨rfl, rfl, rfl⟩ rfl rfl ?_
  exact z_cv (As := []) (rest := []) (b := 17) rfl at_Ta_open rfl rfl (Nat.le_of_ble_eq_true rfl) (Nat.le_of_ble_eq_true rfl) ⟨rfl, rfl, rfl⟩ (by decide) rfl h

theorem bk_Ph_letters_7 {k : Nat} {pa pb : Nat} {ga : Nat → Nat} {I : pm_II} {J : pm_JJ} {Q : Option Value → pm_H → Prop} (h : Px k 176 m_Ma_takeText 0 [.ref 89, .ref 17, .null] [] (hp I J (pm_RT pa pb ga)) (fun r h' => h'.1 = 176 ∧ Px (k + 1) 176 m_Ph_letters 18 [.ref 16, .null] (r.toList ++ []) h' Q)) : Px (k + 1) 176 m_Ph_letters 7 [.ref 16, .null] [] (hp I J (pm_RT pa pb ga)) Q := by
  refine x_l 8 rfl rfl rfl ?_
  refine z_gf 11 (.ref 89) rfl ⟨rfl, rfl, rfl⟩ rfl rfl ?_
  refine x_l 12 rfl rfl rfl ?_
  refine z_gf 15 (.ref 17) rfl ⟨rfl, rfl, rfl⟩ rfl rfl ?_
  exact z_cv (As := [.ref 17]) (rest := []) (b := 89) rfl at_Ma_takeText rfl rfl (Nat.le_of_ble_eq_true rfl) (Nat.le_of_ble_eq_true rfl) ⟨rfl, rfl, rfl⟩ (by decide) rfl h

theorem bk_Ph_letters_18 {k : Nat} {pa pb : Nat} {ga : Nat → Nat} {I : pm_II} {J : pm_JJ} {Q : Option Value → pm_H → Prop} {s0 : Int32} (h : Px k 176 m_Bu_outdate 0 [.ref 95] [] (hp I J (pm_RT pa pb ga)) (fun r h' => h'.1 = 176 ∧ Px (k + 1) 176 m_Ph_letters 26 [.ref 16, .int s0] (r.toList ++ []) h' Q)) : Px (k + 1) 176 m_Ph_letters 18 [.ref 16, .null] [.int s0] (hp I J (pm_RT pa pb ga)) Q := by
  refine x_t 19 rfl rfl rfl ?_
  refine x_l 20 rfl rfl rfl ?_
  refine z_gf 23 (.ref 95) rfl ⟨rfl, rfl, rfl⟩ rfl rfl ?_
  exact z_cv (As := []) (rest := []) (b := 95) rfl at_Bu_outdate rfl rfl (Nat.le_of_ble_eq_true rfl) (Nat.le_of_ble_eq_true rfl) ⟨rfl, rfl, rfl⟩ (by decide) rfl h

theorem bk_Ph_letters_26 {k : Nat} {pa pb : Nat} {ga : Nat → Nat} {I : pm_II} {J : pm_JJ} {Q : Option Value → pm_H → Prop} {x1 : Int32} (h : Px k 176 m_Ta_close 0 [.ref 17, .int x1] [] (hp I J (pm_RT pa pb ga)) (fun r h' => h'.1 = 176 ∧ Px (k + 1) 176 m_Ph_letters 34 [.ref 16, .int x1] (r.toList ++ []) h' Q)) : Px (k + 1) 176 m_Ph_letters 26 [.ref 16, .int x1] [] (hp I J (pm_RT pa pb ga)) Q := by
  refine x_l 27 rfl rfl rfl ?_
  refine z_gf 30 (.ref 17) rfl ⟨rfl, rfl, rfl⟩ rfl rfl ?_
  refine x_l 31 rfl rfl rfl ?_
  exact z_cv (As := [.int x1]) (rest := []) (b := 17) rfl at_Ta_close rfl rfl (Nat.le_of_ble_eq_true rfl) (Nat.le_of_ble_eq_true rfl) ⟨rfl, rfl, rfl⟩ (by decide) rfl h

theorem bk_Ph_letters_34 {k : Nat} {pa pb : Nat} {ga : Nat → Nat} {I : pm_II} {J : pm_JJ} {Q : Option Value → pm_H → Prop} {x1 : Int32} {s0 : Int32} (h : Q (some (.int s0)) (hp I J (pm_RT pa pb ga))) : Px (k + 1) 176 m_Ph_letters 34 [.ref 16, .int x1] [.int s0] (hp I J (pm_RT pa pb ga)) Q := by
  exact x_ri rfl (Or.inl rfl) h

theorem bk_Ph_bundles_0 {k : Nat} {pa pb : Nat} {ga : Nat → Nat} {I : pm_II} {J : pm_JJ} {Q : Option Value → pm_H → Prop} {x1 : Int32} {x2 : Int32} (h : ((x1 < 1 → Q (some (.int (-1))) (hp I J (pm_RT pa pb ga))) ∧ (¬ (x1 < 1) → ((30 < x2 → Q (some (.int (-1))) (hp I J (pm_RT pa pb ga))) ∧ (¬ (30 < x2) → ((x1 ≤ x2 → Px k 176 m_Bu_limit 0 [.ref 95, .int x1, .int x2] [] (hp I J (pm_RT pa pb ga)) (fun r h' => h'.1 = 176 ∧ Px (k + 1) 176 m_Ph_bundles 27 [.ref 16, .int x1, .int x2] (r.toList ++ []) h' Q)) ∧ (¬ (x1 ≤ x2) → Q (some (.int (-1))) (hp I J (pm_RT pa pb ga))))))))) : Px (k + 1) 176 m_Ph_bundles 0 [.ref 16, .int x1, .int x2] [] (hp I J (pm_RT pa pb ga)) Q := by
  refine x_l 1 rfl rfl rfl ?_
  refine z_k 2 1 rfl (by decide) rfl ?_
  refine x_b 5 rfl rfl rfl (fun c => ?_) (fun c => ?_)
  · have h := h.1 c
    refine z_k 17 (-1) rfl (by decide) rfl ?_
    exact x_ri rfl (Or.inl rfl) h
  · have h := h.2 c
    refine x_l 6 rfl rfl rfl ?_
    refine z_k 8 30 rfl (by decide) rfl ?_
    refine x_b 11 rfl rfl rfl (fun c => ?_) (fun c => ?_)
    · have h := h.1 c
      refine z_k 17 (-1) rfl (by decide) rfl ?_
      exact x_ri rfl (Or.inl rfl) h
    · have h := h.2 c
      refine x_l 12 rfl rfl rfl ?_
      refine x_l 13 rfl rfl rfl ?_
      refine x_b 16 rfl rfl rfl (fun c => ?_) (fun c => ?_)
      · have h := h.1 c
        refine x_l 19 rfl rfl rfl ?_
        refine z_gf 22 (.ref 95) rfl ⟨rfl, rfl, rfl⟩ rfl rfl ?_
        refine x_l 23 rfl rfl rfl ?_
        refine x_l 24 rfl rfl rfl ?_
        exact z_cv (As := [.int x1, .int x2]) (rest := []) (b := 95) rfl at_Bu_limit rfl rfl (Nat.le_of_ble_eq_true rfl) (Nat.le_of_ble_eq_true rfl) ⟨rfl, rfl, rfl⟩ (by decide) rfl h
      · have h := h.2 c
        refine z_k 17 (-1) rfl (by decide) rfl ?_
        exact x_ri rfl (Or.inl rfl) h

theorem bk_Ph_bundles_27 {k : Nat} {pa pb : Nat} {ga : Nat → Nat} {I : pm_II} {J : pm_JJ} {Q : Option Value → pm_H → Prop} {x1 : Int32} {x2 : Int32} (h : Px k 176 m_Bu_howMany 0 [.ref 95, .ref 89] [] (hp I J (pm_RT pa pb ga)) (fun r h' => h'.1 = 176 ∧ Px (k + 1) 176 m_Ph_bundles 38 [.ref 16, .int x1, .int x2] (r.toList ++ []) h' Q)) : Px (k + 1) 176 m_Ph_bundles 27 [.ref 16, .int x1, .int x2] [] (hp I J (pm_RT pa pb ga)) Q := by
  refine x_l 28 rfl rfl rfl ?_
  refine z_gf 31 (.ref 95) rfl ⟨rfl, rfl, rfl⟩ rfl rfl ?_
  refine x_l 32 rfl rfl rfl ?_
  refine z_gf 35 (.ref 89) rfl ⟨rfl, rfl, rfl⟩ rfl rfl ?_
  exact z_cv (As := [.ref 89]) (rest := []) (b := 95) rfl at_Bu_howMany rfl rfl (Nat.le_of_ble_eq_true rfl) (Nat.le_of_ble_eq_true rfl) ⟨rfl, rfl, rfl⟩ (by decide) rfl h

theorem bk_Ph_bundles_38 {k : Nat} {pa pb : Nat} {ga : Nat → Nat} {I : pm_II} {J : pm_JJ} {Q : Option Value → pm_H → Prop} {x1 : Int32} {x2 : Int32} {s0 : Int32} (h : Q (some (.int s0)) (hp I J (pm_RT pa pb ga))) : Px (k + 1) 176 m_Ph_bundles 38 [.ref 16, .int x1, .int x2] [.int s0] (hp I J (pm_RT pa pb ga)) Q := by
  exact x_ri rfl (Or.inl rfl) h

theorem bk_Ph_letter_0 {k : Nat} {pa pb : Nat} {ga : Nat → Nat} {I : pm_II} {J : pm_JJ} {Q : Option Value → pm_H → Prop} {x1 : Int32} {x2 : Int32} (h : ((¬ x2 = 2 → Px k 176 m_Ma_tell 0 [.ref 89, .int x1, .int x2] [] (hp I J (pm_RT pa pb ga)) (fun r h' => h'.1 = 176 ∧ Px (k + 1) 176 m_Ph_letter 27 [.ref 16, .int x1, .int x2] (r.toList ++ []) h' Q)) ∧ (¬ (¬ x2 = 2) → Px k 176 m_Bu_bundleOf 0 [.ref 95, .ref 89, .int x1] [] (hp I J (pm_RT pa pb ga)) (fun r h' => h'.1 = 176 ∧ Px (k + 1) 176 m_Ph_letter 17 [.ref 16, .int x1, .int x2] (r.toList ++ []) h' Q)))) : Px (k + 1) 176 m_Ph_letter 0 [.ref 16, .int x1, .int x2] [] (hp I J (pm_RT pa pb ga)) Q := by
  refine x_l 1 rfl rfl rfl ?_
  refine z_k 2 2 rfl (by decide) rfl ?_
  refine x_b 5 rfl rfl rfl (fun c => ?_) (fun c => ?_)
  · have h := h.1 c
    refine x_l 19 rfl rfl rfl ?_
    refine z_gf 22 (.ref 89) rfl ⟨rfl, rfl, rfl⟩ rfl rfl ?_
    refine x_l 23 rfl rfl rfl ?_
    refine x_l 24 rfl rfl rfl ?_
    exact z_cv (As := [.int x1, .int x2]) (rest := []) (b := 89) rfl at_Ma_tell rfl rfl (Nat.le_of_ble_eq_true rfl) (Nat.le_of_ble_eq_true rfl) ⟨rfl, rfl, rfl⟩ (by decide) rfl h
  · have h := h.2 c
    refine x_l 6 rfl rfl rfl ?_
    refine z_gf 9 (.ref 95) rfl ⟨rfl, rfl, rfl⟩ rfl rfl ?_
    refine x_l 10 rfl rfl rfl ?_
    refine z_gf 13 (.ref 89) rfl ⟨rfl, rfl, rfl⟩ rfl rfl ?_
    refine x_l 14 rfl rfl rfl ?_
    exact z_cv (As := [.ref 89, .int x1]) (rest := []) (b := 95) rfl at_Bu_bundleOf rfl rfl (Nat.le_of_ble_eq_true rfl) (Nat.le_of_ble_eq_true rfl) ⟨rfl, rfl, rfl⟩ (by decide) rfl h

theorem bk_Ph_letter_17 {k : Nat} {pa pb : Nat} {ga : Nat → Nat} {I : pm_II} {J : pm_JJ} {Q : Option Value → pm_H → Prop} {x1 : Int32} {x2 : Int32} {s0 : Int32} (h : Q (some (.int s0)) (hp I J (pm_RT pa pb ga))) : Px (k + 1) 176 m_Ph_letter 17 [.ref 16, .int x1, .int x2] [.int s0] (hp I J (pm_RT pa pb ga)) Q := by
  exact x_ri rfl (Or.inl rfl) h

theorem bk_Ph_letter_27 {k : Nat} {pa pb : Nat} {ga : Nat → Nat} {I : pm_II} {J : pm_JJ} {Q : Option Value → pm_H → Prop} {x1 : Int32} {x2 : Int32} {s0 : Int32} (h : Q (some (.int s0)) (hp I J (pm_RT pa pb ga))) : Px (k + 1) 176 m_Ph_letter 27 [.ref 16, .int x1, .int x2] [.int s0] (hp I J (pm_RT pa pb ga)) Q := by
  exact x_ri rfl (Or.inl rfl) h

theorem bk_Ph_bundle_0 {k : Nat} {pa pb : Nat} {ga : Nat → Nat} {I : pm_II} {J : pm_JJ} {Q : Option Value → pm_H → Prop} {x1 : Int32} {x2 : Int32} (h : Px k 176 m_Bu_tell 0 [.ref 95, .ref 89, .int x1, .int x2] [] (hp I J (pm_RT pa pb ga)) (fun r h' => h'.1 = 176 ∧ Px (k + 1) 176 m_Ph_bundle 13 [.ref 16, .int x1, .int x2] (r.toList ++ []) h' Q)) : Px (k + 1) 176 m_Ph_bundle 0 [.ref 16, .int x1, .int x2] [] (hp I J (pm_RT pa pb ga)) Q := by
  refine x_l 1 rfl rfl rfl ?_
  refine z_gf 4 (.ref 95) rfl ⟨rfl, rfl, rfl⟩ rfl rfl ?_
  refine x_l 5 rfl rfl rfl ?_
  refine z_gf 8 (.ref 89) rfl ⟨rfl, rfl, rfl⟩ rfl rfl ?_
  refine x_l 9 rfl rfl rfl ?_
  refine x_l 10 rfl rfl rfl ?_
  exact z_cv (As := [.ref 89, .int x1, .int x2]) (rest := []) (b := 95) rfl at_Bu_tell rfl rfl (Nat.le_of_ble_eq_true rfl) (Nat.le_of_ble_eq_true rfl) ⟨rfl, rfl, rfl⟩ (by decide) rfl h

theorem bk_Ph_bundle_13 {k : Nat} {pa pb : Nat} {ga : Nat → Nat} {I : pm_II} {J : pm_JJ} {Q : Option Value → pm_H → Prop} {x1 : Int32} {x2 : Int32} {s0 : Int32} (h : Q (some (.int s0)) (hp I J (pm_RT pa pb ga))) : Px (k + 1) 176 m_Ph_bundle 13 [.ref 16, .int x1, .int x2] [.int s0] (hp I J (pm_RT pa pb ga)) Q := by
  exact x_ri rfl (Or.inl rfl) h

theorem bk_Ph_strike_0 {k : Nat} {pa pb : Nat} {ga : Nat → Nat} {I : pm_II} {J : pm_JJ} {Q : Option Value → pm_H → Prop} {x1 : Int32} (h : Px k 176 m_Ma_remove 0 [.ref 89, .int x1, .null] [] (hp I J (pm_RT pa pb ga)) (fun r h' => h'.1 = 176 ∧ Px (k + 1) 176 m_Ph_strike 8 [.ref 16, .int x1, .null] (r.toList ++ []) h' Q)) : Px (k + 1) 176 m_Ph_strike 0 [.ref 16, .int x1, .null] [] (hp I J (pm_RT pa pb ga)) Q := by
  refine x_l 1 rfl rfl rfl ?_
  refine z_gf 4 (.ref 89) rfl ⟨rfl, rfl, rfl⟩ rfl rfl ?_
  refine x_l 5 rfl rfl rfl ?_
  exact z_cv (As := [.int x1]) (rest := []) (b := 89) rfl at_Ma_remove rfl rfl (Nat.le_of_ble_eq_true rfl) (Nat.le_of_ble_eq_true rfl) ⟨rfl, rfl, rfl⟩ (by decide) rfl h

theorem bk_Ph_strike_8 {k : Nat} {pa pb : Nat} {ga : Nat → Nat} {I : pm_II} {J : pm_JJ} {Q : Option Value → pm_H → Prop} {x1 : Int32} {s0 : Int32} (h : Px k 176 m_Bu_outdate 0 [.ref 95] [] (hp I J (pm_RT pa pb ga)) (fun r h' => h'.1 = 176 ∧ Px (k + 1) 176 m_Ph_strike 16 [.ref 16, .int x1, .int s0] (r.toList ++ []) h' Q)) : Px (k + 1) 176 m_Ph_strike 8 [.ref 16, .int x1, .null] [.int s0] (hp I J (pm_RT pa pb ga)) Q := by
  refine x_t 9 rfl rfl rfl ?_
  refine x_l 10 rfl rfl rfl ?_
  refine z_gf 13 (.ref 95) rfl ⟨rfl, rfl, rfl⟩ rfl rfl ?_
  exact z_cv (As := []) (rest := []) (b := 95) rfl at_Bu_outdate rfl rfl (Nat.le_of_ble_eq_true rfl) (Nat.le_of_ble_eq_true rfl) ⟨rfl, rfl, rfl⟩ (by decide) rfl h

theorem bk_Ph_strike_16 {k : Nat} {pa pb : Nat} {ga : Nat → Nat} {I : pm_II} {J : pm_JJ} {Q : Option Value → pm_H → Prop} {x1 : Int32} {x2 : Int32} (h : Q (some (.int x2)) (hp I J (pm_RT pa pb ga))) : Px (k + 1) 176 m_Ph_strike 16 [.ref 16, .int x1, .int x2] [] (hp I J (pm_RT pa pb ga)) Q := by
  refine x_l 17 rfl rfl rfl ?_
  exact x_ri rfl (Or.inl rfl) h

theorem bk_Ph_job_0 {k : Nat} {pa pb : Nat} {ga : Nat → Nat} {I : pm_II} {J : pm_JJ} {Q : Option Value → pm_H → Prop} {x1 : Int32} {x2 : Int32} {x3 : Int32} {x4 : Int32} (h : Px k 176 m_Wo_add 0 [.ref 101, .int x1, .int x2, .int x3, .int x4] [] (hp I J (pm_RT pa pb ga)) (fun r h' => h'.1 = 176 ∧ Px (k + 1) 176 m_Ph_job 12 [.ref 16, .int x1, .int x2, .int x3, .int x4] (r.toList ++ []) h' Q)) : Px (k + 1) 176 m_Ph_job 0 [.ref 16, .int x1, .int x2, .int x3, .int x4] [] (hp I J (pm_RT pa pb ga)) Q := by
  refine x_l 1 rfl rfl rfl ?_
  refine z_gf 4 (.ref 101) rfl ⟨rfl, rfl, rfl⟩ rfl rfl ?_
  refine x_l 5 rfl rfl rfl ?_
  refine x_l 6 rfl rfl rfl ?_
  refine x_l 7 rfl rfl rfl ?_
  refine x_l 9 rfl rfl rfl ?_
  exact z_cv (As := [.int x1, .int x2, .int x3, .int x4]) (rest := []) (b := 101) rfl at_Wo_add rfl rfl (Nat.le_of_ble_eq_true rfl) (Nat.le_of_ble_eq_true rfl) ⟨rfl, rfl, rfl⟩ (by decide) rfl h

theorem bk_Ph_job_12 {k : Nat} {pa pb : Nat} {ga : Nat → Nat} {I : pm_II} {J : pm_JJ} {Q : Option Value → pm_H → Prop} {x1 : Int32} {x2 : Int32} {x3 : Int32} {x4 : Int32} {s0 : Int32} (h : Q (some (.int s0)) (hp I J (pm_RT pa pb ga))) : Px (k + 1) 176 m_Ph_job 12 [.ref 16, .int x1, .int x2, .int x3, .int x4] [.int s0] (hp I J (pm_RT pa pb ga)) Q := by
  exact x_ri rfl (Or.inl rfl) h

theorem bk_Ph_times_0 {k : Nat} {pa pb : Nat} {ga : Nat → Nat} {I : pm_II} {J : pm_JJ} {Q : Option Value → pm_H → Prop} {x1 : Int32} {x2 : Int32} (h : Px k 176 m_Wo_allow 0 [.ref 101, .int x1, .int x2] [] (hp I J (pm_RT pa pb ga)) (fun r h' => h'.1 = 176 ∧ Px (k + 1) 176 m_Ph_times 9 [.ref 16, .int x1, .int x2] (r.toList ++ []) h' Q)) : Px (k + 1) 176 m_Ph_times 0 [.ref 16, .int x1, .int x2] [] (hp I J (pm_RT pa pb ga)) Q := by
  refine x_l 1 rfl rfl rfl ?_
  refine z_gf 4 (.ref 101) rfl ⟨rfl, rfl, rfl⟩ rfl rfl ?_
  refine x_l 5 rfl rfl rfl ?_
  refine x_l 6 rfl rfl rfl ?_
  exact z_cv (As := [.int x1, .int x2]) (rest := []) (b := 101) rfl at_Wo_allow rfl rfl (Nat.le_of_ble_eq_true rfl) (Nat.le_of_ble_eq_true rfl) ⟨rfl, rfl, rfl⟩ (by decide) rfl h

theorem bk_Ph_times_9 {k : Nat} {pa pb : Nat} {ga : Nat → Nat} {I : pm_II} {J : pm_JJ} {Q : Option Value → pm_H → Prop} {x1 : Int32} {x2 : Int32} {s0 : Int32} (h : Q (some (.int s0)) (hp I J (pm_RT pa pb ga))) : Px (k + 1) 176 m_Ph_times 9 [.ref 16, .int x1, .int x2] [.int s0] (hp I J (pm_RT pa pb ga)) Q := by
  exact x_ri rfl (Or.inl rfl) h

theorem bk_Ph_drop_0 {k : Nat} {pa pb : Nat} {ga : Nat → Nat} {I : pm_II} {J : pm_JJ} {Q : Option Value → pm_H → Prop} {x1 : Int32} (h : Px k 176 m_Wo_remove 0 [.ref 101, .int x1, .null] [] (hp I J (pm_RT pa pb ga)) (fun r h' => h'.1 = 176 ∧ Px (k + 1) 176 m_Ph_drop 8 [.ref 16, .int x1] (r.toList ++ []) h' Q)) : Px (k + 1) 176 m_Ph_drop 0 [.ref 16, .int x1] [] (hp I J (pm_RT pa pb ga)) Q := by
  refine x_l 1 rfl rfl rfl ?_
  refine z_gf 4 (.ref 101) rfl ⟨rfl, rfl, rfl⟩ rfl rfl ?_
  refine x_l 5 rfl rfl rfl ?_
  exact z_cv (As := [.int x1]) (rest := []) (b := 101) rfl at_Wo_remove rfl rfl (Nat.le_of_ble_eq_true rfl) (Nat.le_of_ble_eq_true rfl) ⟨rfl, rfl, rfl⟩ (by decide) rfl h

theorem bk_Ph_drop_8 {k : Nat} {pa pb : Nat} {ga : Nat → Nat} {I : pm_II} {J : pm_JJ} {Q : Option Value → pm_H → Prop} {x1 : Int32} {s0 : Int32} (h : Q (some (.int s0)) (hp I J (pm_RT pa pb ga))) : Px (k + 1) 176 m_Ph_drop 8 [.ref 16, .int x1] [.int s0] (hp I J (pm_RT pa pb ga)) Q := by
  exact x_ri rfl (Or.inl rfl) h

theorem bk_Ph_order_0 {k : Nat} {pa pb : Nat} {ga : Nat → Nat} {I : pm_II} {J : pm_JJ} {Q : Option Value → pm_H → Prop} {x1 : Int32} (h : Px k 176 m_Wo_jobAt 0 [.ref 101, .int x1] [] (hp I J (pm_RT pa pb ga)) (fun r h' => h'.1 = 176 ∧ Px (k + 1) 176 m_Ph_order 8 [.ref 16, .int x1] (r.toList ++ []) h' Q)) : Px (k + 1) 176 m_Ph_order 0 [.ref 16, .int x1] [] (hp I J (pm_RT pa pb ga)) Q := by
  refine x_l 1 rfl rfl rfl ?_
  refine z_gf 4 (.ref 101) rfl ⟨rfl, rfl, rfl⟩ rfl rfl ?_
  refine x_l 5 rfl rfl rfl ?_
  exact z_cv (As := [.int x1]) (rest := []) (b := 101) rfl at_Wo_jobAt rfl rfl (Nat.le_of_ble_eq_true rfl) (Nat.le_of_ble_eq_true rfl) ⟨rfl, rfl, rfl⟩ (by decide) rfl h

theorem bk_Ph_order_8 {k : Nat} {pa pb : Nat} {ga : Nat → Nat} {I : pm_II} {J : pm_JJ} {Q : Option Value → pm_H → Prop} {x1 : Int32} {s0 : Int32} (h : Q (some (.int s0)) (hp I J (pm_RT pa pb ga))) : Px (k + 1) 176 m_Ph_order 8 [.ref 16, .int x1] [.int s0] (hp I J (pm_RT pa pb ga)) Q := by
  exact x_ri rfl (Or.inl rfl) h

theorem bk_Ph_when_0 {k : Nat} {pa pb : Nat} {ga : Nat → Nat} {I : pm_II} {J : pm_JJ} {Q : Option Value → pm_H → Prop} {x1 : Int32} {x2 : Int32} (h : Px k 176 m_Wo_tell 0 [.ref 101, .int x1, .int x2] [] (hp I J (pm_RT pa pb ga)) (fun r h' => h'.1 = 176 ∧ Px (k + 1) 176 m_Ph_when 9 [.ref 16, .int x1, .int x2] (r.toList ++ []) h' Q)) : Px (k + 1) 176 m_Ph_when 0 [.ref 16, .int x1, .int x2] [] (hp I J (pm_RT pa pb ga)) Q := by
  refine x_l 1 rfl rfl rfl ?_
  refine z_gf 4 (.ref 101) rfl ⟨rfl, rfl, rfl⟩ rfl rfl ?_
  refine x_l 5 rfl rfl rfl ?_
  refine x_l 6 rfl rfl rfl ?_
  exact z_cv (As := [.int x1, .int x2]) (rest := []) (b := 101) rfl at_Wo_tell rfl rfl (Nat.le_of_ble_eq_true rfl) (Nat.le_of_ble_eq_true rfl) ⟨rfl, rfl, rfl⟩ (by decide) rfl h

theorem bk_Ph_when_9 {k : Nat} {pa pb : Nat} {ga : Nat → Nat} {I : pm_II} {J : pm_JJ} {Q : Option Value → pm_H → Prop} {x1 : Int32} {x2 : Int32} {s0 : Int32} (h : Q (some (.int s0)) (hp I J (pm_RT pa pb ga))) : Px (k + 1) 176 m_Ph_when 9 [.ref 16, .int x1, .int x2] [.int s0] (hp I J (pm_RT pa pb ga)) Q := by
  exact x_ri rfl (Or.inl rfl) h

theorem bk_Ph_count_0 {k : Nat} {pa pb : Nat} {ga : Nat → Nat} {I : pm_II} {J : pm_JJ} {Q : Option Value → pm_H → Prop} {x1 : Int32} (h : ((x1 = nI 0 → Px k 176 m_Wo_lateInAll 0 [.ref 101] [] (hp I J (pm_RT pa pb ga)) (fun r h' => h'.1 = 176 ∧ Px (k + 1) 176 m_Ph_count 79 [.ref 16, .int x1] (r.toList ++ []) h' Q)) ∧ (x1 = nI 1 → Px k 176 m_Wo_lastEnd 0 [.ref 101] [] (hp I J (pm_RT pa pb ga)) (fun r h' => h'.1 = 176 ∧ Px (k + 1) 176 m_Ph_count 87 [.ref 16, .int x1] (r.toList ++ []) h' Q)) ∧ (x1 = nI 2 → Px k 176 m_Wo_changesOfColour 0 [.ref 101] [] (hp I J (pm_RT pa pb ga)) (fun r h' => h'.1 = 176 ∧ Px (k + 1) 176 m_Ph_count 95 [.ref 16, .int x1] (r.toList ++ []) h' Q)) ∧ (x1 = nI 3 → Px k 176 m_Ro_inPlan 0 [.ref 19] [] (hp I J (pm_RT pa pb ga)) (fun r h' => h'.1 = 176 ∧ Px (k + 1) 176 m_Ph_count 103 [.ref 16, .int x1] (r.toList ++ []) h' Q)) ∧ (x1 = nI 4 → Px k 176 m_Ro_lostInAll 0 [.ref 19, .null, .null] [] (hp I J (pm_RT pa pb ga)) (fun r h' => h'.1 = 176 ∧ Px (k + 1) 176 m_Ph_count 111 [.ref 16, .int x1] (r.toList ++ []) h' Q)) ∧ (x1 = nI 5 → Px k 176 m_Fo_leaves 0 [.ref 29] [] (hp I J (pm_RT pa pb ga)) (fun r h' => h'.1 = 176 ∧ Px (k + 1) 176 m_Ph_count 119 [.ref 16, .int x1] (r.toList ++ []) h' Q)) ∧ (x1 = nI 6 → Px k 176 m_Fo_sheets 0 [.ref 29] [] (hp I J (pm_RT pa pb ga)) (fun r h' => h'.1 = 176 ∧ Px (k + 1) 176 m_Ph_count 127 [.ref 16, .int x1] (r.toList ++ []) h' Q)) ∧ (x1 = nI 7 → Px k 176 m_Pr_sheetsPrinted 0 [.ref 39] [] (hp I J (pm_RT pa pb ga)) (fun r h' => h'.1 = 176 ∧ Px (k + 1) 176 m_Ph_count 135 [.ref 16, .int x1] (r.toList ++ []) h' Q)) ∧ (x1 = nI 8 → Px k 176 m_Pr_sheetsGood 0 [.ref 39] [] (hp I J (pm_RT pa pb ga)) (fun r h' => h'.1 = 176 ∧ Px (k + 1) 176 m_Ph_count 143 [.ref 16, .int x1] (r.toList ++ []) h' Q)) ∧ (x1 = nI 9 → Px k 176 m_Ty_linesStanding 0 [.ref 48] [] (hp I J (pm_RT pa pb ga)) (fun r h' => h'.1 = 176 ∧ Px (k + 1) 176 m_Ph_count 151 [.ref 16, .int x1] (r.toList ++ []) h' Q)) ∧ (x1 = nI 10 → pm_ob pa 3 ∧ Px k 176 m_Pi_howMany 0 [.ref pa] [] (hp I J (pm_RT pa pb ga)) (fun r h' => h'.1 = 176 ∧ Px (k + 1) 176 m_Ph_count 159 [.ref 16, .int x1] (r.toList ++ []) h' Q)) ∧ (x1 = nI 11 → Px k 176 m_Ma_howMany 0 [.ref 89] [] (hp I J (pm_RT pa pb ga)) (fun r h' => h'.1 = 176 ∧ Px (k + 1) 176 m_Ph_count 167 [.ref 16, .int x1] (r.toList ++ []) h' Q)) ∧ (x1 = nI 12 → Px k 176 m_Bu_howMany 0 [.ref 95, .ref 89] [] (hp I J (pm_RT pa pb ga)) (fun r h' => h'.1 = 176 ∧ Px (k + 1) 176 m_Ph_count 179 [.ref 16, .int x1] (r.toList ++ []) h' Q)) ∧ (x1 = nI 13 → Px k 176 m_Wo_howMany 0 [.ref 101] [] (hp I J (pm_RT pa pb ga)) (fun r h' => h'.1 = 176 ∧ Px (k + 1) 176 m_Ph_count 187 [.ref 16, .int x1] (r.toList ++ []) h' Q)) ∧ ((x1 < 0 ∨ nI 13 < x1) → Q (some (.int (-1))) (hp I J (pm_RT pa pb ga))))) : Px (k + 1) 176 m_Ph_count 0 [.ref 16, .int x1] [] (hp I J (pm_RT pa pb ga)) Q := by
  refine x_l 1 rfl rfl rfl ?_
  refine z_sw 13 (dt := 188) rfl rfl (by decide) (fun i hi e => ?_) (fun c => ?_)
  · match i, hi with
    | 0, _ =>
      refine ⟨_, 72, rfl, rfl, ?_⟩
      have h := h.1 e
      refine x_l 73 rfl rfl rfl ?_
      refine z_gf 76 (.ref 101) rfl ⟨rfl, rfl, rfl⟩ rfl rfl ?_
      exact z_cv (As := []) (rest := []) (b := 101) rfl at_Wo_lateInAll rfl rfl (Nat.le_of_ble_eq_true rfl) (Nat.le_of_ble_eq_true rfl) ⟨rfl, rfl, rfl⟩ (by decide) rfl h
    | 1, _ =>
      refine ⟨_, 80, rfl, rfl, ?_⟩
      have h := h.2.1 e
      refine x_l 81 rfl rfl rfl ?_
      refine z_gf 84 (.ref 101) rfl ⟨rfl, rfl, rfl⟩ rfl rfl ?_
      exact z_cv (As := []) (rest := []) (b := 101) rfl at_Wo_lastEnd rfl rfl (Nat.le_of_ble_eq_true rfl) (Nat.le_of_ble_eq_true rfl) ⟨rfl, rfl, rfl⟩ (by decide) rfl h
    | 2, _ =>
      refine ⟨_, 88, rfl, rfl, ?_⟩
      have h := h.2.2.1 e
      refine x_l 89 rfl rfl rfl ?_
      refine z_gf 92 (.ref 101) rfl ⟨rfl, rfl, rfl⟩ rfl rfl ?_
      exact z_cv (As := []) (rest := []) (b := 101) rfl at_Wo_changesOfColour rfl rfl (Nat.le_of_ble_eq_true rfl) (Nat.le_of_ble_eq_true rfl) ⟨rfl, rfl, rfl⟩ (by decide) rfl h
    | 3, _ =>
      refine ⟨_, 96, rfl, rfl, ?_⟩
      have h := h.2.2.2.1 e
      refine x_l 97 rfl rfl rfl ?_
      refine z_gf 100 (.ref 19) rfl ⟨rfl, rfl, rfl⟩ rfl rfl ?_
      exact z_cv (As := []) (rest := []) (b := 19) rfl at_Ro_inPlan rfl rfl (Nat.le_of_ble_eq_true rfl) (Nat.le_of_ble_eq_true rfl) ⟨rfl, rfl, rfl⟩ (by decide) rfl h
    | 4, _ =>
      refine ⟨_, 104, rfl, rfl, ?_⟩
      have h := h.2.2.2.2.1 e
      refine x_l 105 rfl rfl rfl ?_
      refine z_gf 108 (.ref 19) rfl ⟨rfl, rfl, rfl⟩ rfl rfl ?_
      exact z_cv (As := []) (rest := []) (b := 19) rfl at_Ro_lostInAll rfl rfl (Nat.le_of_ble_eq_true rfl) (Nat.le_of_ble_eq_true rfl) ⟨rfl, rfl, rfl⟩ (by decide) rfl h
    | 5, _ =>
      refine ⟨_, 112, rfl, rfl, ?_⟩
      have h := h.2.2.2.2.2.1 e
      refine x_l 113 rfl rfl rfl ?_
      refine z_gf 116 (.ref 29) rfl ⟨rfl, rfl, rfl⟩ rfl rfl ?_
      exact z_cv (As := []) (rest := []) (b := 29) rfl at_Fo_leaves rfl rfl (Nat.le_of_ble_eq_true rfl) (Nat.le_of_ble_eq_true rfl) ⟨rfl, rfl, rfl⟩ (by decide) rfl h
    | 6, _ =>
      refine ⟨_, 120, rfl, rfl, ?_⟩
      have h := h.2.2.2.2.2.2.1 e
      refine x_l 121 rfl rfl rfl ?_
      refine z_gf 124 (.ref 29) rfl ⟨rfl, rfl, rfl⟩ rfl rfl ?_
      exact z_cv (As := []) (rest := []) (b := 29) rfl at_Fo_sheets rfl rfl (Nat.le_of_ble_eq_true rfl) (Nat.le_of_ble_eq_true rfl) ⟨rfl, rfl, rfl⟩ (by decide) rfl h
    | 7, _ =>
      refine ⟨_, 128, rfl, rfl, ?_⟩
      have h := h.2.2.2.2.2.2.2.1 e
      refine x_l 129 rfl rfl rfl ?_
      refine z_gf 132 (.ref 39) rfl ⟨rfl, rfl, rfl⟩ rfl rfl ?_
      exact z_cv (As := []) (rest := []) (b := 39) rfl at_Pr_sheetsPrinted rfl rfl (Nat.le_of_ble_eq_true rfl) (Nat.le_of_ble_eq_true rfl) ⟨rfl, rfl, rfl⟩ (by decide) rfl h
    | 8, _ =>
      refine ⟨_, 136, rfl, rfl, ?_⟩
      have h := h.2.2.2.2.2.2.2.2.1 e
      refine x_l 137 rfl rfl rfl ?_
      refine z_gf 140 (.ref 39) rfl ⟨rfl, rfl, rfl⟩ rfl rfl ?_
      exact z_cv (As := []) (rest := []) (b := 39) rfl at_Pr_sheetsGood rfl rfl (Nat.le_of_ble_eq_true rfl) (Nat.le_of_ble_eq_true rfl) ⟨rfl, rfl, rfl⟩ (by decide) rfl h
    | 9, _ =>
      refine ⟨_, 144, rfl, rfl, ?_⟩
      have h := h.2.2.2.2.2.2.2.2.2.1 e
      refine x_l 145 rfl rfl rfl ?_
      refine z_gf 148 (.ref 48) rfl ⟨rfl, rfl, rfl⟩ rfl rfl ?_
      exact z_cv (As := []) (rest := []) (b := 48) rfl at_Ty_linesStanding rfl rfl (Nat.le_of_ble_eq_true rfl) (Nat.le_of_ble_eq_true rfl) ⟨rfl, rfl, rfl⟩ (by decide) rfl h
    | 10, _ =>
      refine ⟨_, 152, rfl, rfl, ?_⟩
      have h := h.2.2.2.2.2.2.2.2.2.2.1 e
      refine x_l 153 rfl rfl rfl ?_
      refine z_gf 156 (.ref pa) rfl ⟨rfl, rfl, rfl⟩ rfl rfl ?_
      have h0 := h.1
      have h := h.2
      exact z_cv (As := []) (rest := []) (b := pa) rfl at_Pi_howMany rfl rfl (Nat.le_of_ble_eq_true rfl) (Nat.le_of_ble_eq_true rfl) h0 (by decide) rfl h
    | 11, _ =>
      refine ⟨_, 160, rfl, rfl, ?_⟩
      have h := h.2.2.2.2.2.2.2.2.2.2.2.1 e
      refine x_l 161 rfl rfl rfl ?_
      refine z_gf 164 (.ref 89) rfl ⟨rfl, rfl, rfl⟩ rfl rfl ?_
      exact z_cv (As := []) (rest := []) (b := 89) rfl at_Ma_howMany rfl rfl (Nat.le_of_ble_eq_true rfl) (Nat.le_of_ble_eq_true rfl) ⟨rfl, rfl, rfl⟩ (by decide) rfl h
    | 12, _ =>
      refine ⟨_, 168, rfl, rfl, ?_⟩
      have h := h.2.2.2.2.2.2.2.2.2.2.2.2.1 e
      refine x_l 169 rfl rfl rfl ?_
      refine z_gf 172 (.ref 95) rfl ⟨rfl, rfl, rfl⟩ rfl rfl ?_
      refine x_l 173 rfl rfl rfl ?_
      refine z_gf 176 (.ref 89) rfl ⟨rfl, rfl, rfl⟩ rfl rfl ?_
      exact z_cv (As := [.ref 89]) (rest := []) (b := 95) rfl at_Bu_howMany rfl rfl (Nat.le_of_ble_eq_true rfl) (Nat.le_of_ble_eq_true rfl) ⟨rfl, rfl, rfl⟩ (by decide) rfl h
    | 13, _ =>
      refine ⟨_, 180, rfl, rfl, ?_⟩
      have h := h.2.2.2.2.2.2.2.2.2.2.2.2.2.1 e
      refine x_l 181 rfl rfl rfl ?_
      refine z_gf 184 (.ref 101) rfl ⟨rfl, rfl, rfl⟩ rfl rfl ?_
      exact z_cv (As := []) (rest := []) (b := 101) rfl at_Wo_howMany rfl rfl (Nat.le_of_ble_eq_true rfl) (Nat.le_of_ble_eq_true rfl) ⟨rfl, rfl, rfl⟩ (by decide) rfl h
    | n + 14, hi => exact absurd hi (by omega)
  · have h := h.2.2.2.2.2.2.2.2.2.2.2.2.2.2 c
    refine z_k 189 (-1) rfl (by decide) rfl ?_
    exact x_ri rfl (Or.inl rfl) h

theorem bk_Ph_count_79 {k : Nat} {pa pb : Nat} {ga : Nat → Nat} {I : pm_II} {J : pm_JJ} {Q : Option Value → pm_H → Prop} {x1 : Int32} {s0 : Int32} (h : Q (some (.int s0)) (hp I J (pm_RT pa pb ga))) : Px (k + 1) 176 m_Ph_count 79 [.ref 16, .int x1] [.int s0] (hp I J (pm_RT pa pb ga)) Q := by
  exact x_ri rfl (Or.inl rfl) h

theorem bk_Ph_count_87 {k : Nat} {pa pb : Nat} {ga : Nat → Nat} {I : pm_II} {J : pm_JJ} {Q : Option Value → pm_H → Prop} {x1 : Int32} {s0 : Int32} (h : Q (some (.int s0)) (hp I J (pm_RT pa pb ga))) : Px (k + 1) 176 m_Ph_count 87 [.ref 16, .int x1] [.int s0] (hp I J (pm_RT pa pb ga)) Q := by
  exact x_ri rfl (Or.inl rfl) h

theorem bk_Ph_count_95 {k : Nat} {pa pb : Nat} {ga : Nat → Nat} {I : pm_II} {J : pm_JJ} {Q : Option Value → pm_H → Prop} {x1 : Int32} {s0 : Int32} (h : Q (some (.int s0)) (hp I J (pm_RT pa pb ga))) : Px (k + 1) 176 m_Ph_count 95 [.ref 16, .int x1] [.int s0] (hp I J (pm_RT pa pb ga)) Q := by
  exact x_ri rfl (Or.inl rfl) h

theorem bk_Ph_count_103 {k : Nat} {pa pb : Nat} {ga : Nat → Nat} {I : pm_II} {J : pm_JJ} {Q : Option Value → pm_H → Prop} {x1 : Int32} {s0 : Int32} (h : Q (some (.int s0)) (hp I J (pm_RT pa pb ga))) : Px (k + 1) 176 m_Ph_count 103 [.ref 16, .int x1] [.int s0] (hp I J (pm_RT pa pb ga)) Q := by
  exact x_ri rfl (Or.inl rfl) h

theorem bk_Ph_count_111 {k : Nat} {pa pb : Nat} {ga : Nat → Nat} {I : pm_II} {J : pm_JJ} {Q : Option Value → pm_H → Prop} {x1 : Int32} {s0 : Int32} (h : Q (some (.int s0)) (hp I J (pm_RT pa pb ga))) : Px (k + 1) 176 m_Ph_count 111 [.ref 16, .int x1] [.int s0] (hp I J (pm_RT pa pb ga)) Q := by
  exact x_ri rfl (Or.inl rfl) h

theorem bk_Ph_count_119 {k : Nat} {pa pb : Nat} {ga : Nat → Nat} {I : pm_II} {J : pm_JJ} {Q : Option Value → pm_H → Prop} {x1 : Int32} {s0 : Int32} (h : Q (some (.int s0)) (hp I J (pm_RT pa pb ga))) : Px (k + 1) 176 m_Ph_count 119 [.ref 16, .int x1] [.int s0] (hp I J (pm_RT pa pb ga)) Q := by
  exact x_ri rfl (Or.inl rfl) h

theorem bk_Ph_count_127 {k : Nat} {pa pb : Nat} {ga : Nat → Nat} {I : pm_II} {J : pm_JJ} {Q : Option Value → pm_H → Prop} {x1 : Int32} {s0 : Int32} (h : Q (some (.int s0)) (hp I J (pm_RT pa pb ga))) : Px (k + 1) 176 m_Ph_count 127 [.ref 16, .int x1] [.int s0] (hp I J (pm_RT pa pb ga)) Q := by
  exact x_ri rfl (Or.inl rfl) h

theorem bk_Ph_count_135 {k : Nat} {pa pb : Nat} {ga : Nat → Nat} {I : pm_II} {J : pm_JJ} {Q : Option Value → pm_H → Prop} {x1 : Int32} {s0 : Int32} (h : Q (some (.int s0)) (hp I J (pm_RT pa pb ga))) : Px (k + 1) 176 m_Ph_count 135 [.ref 16, .int x1] [.int s0] (hp I J (pm_RT pa pb ga)) Q := by
  exact x_ri rfl (Or.inl rfl) h

theorem bk_Ph_count_143 {k : Nat} {pa pb : Nat} {ga : Nat → Nat} {I : pm_II} {J : pm_JJ} {Q : Option Value → pm_H → Prop} {x1 : Int32} {s0 : Int32} (h : Q (some (.int s0)) (hp I J (pm_RT pa pb ga))) : Px (k + 1) 176 m_Ph_count 143 [.ref 16, .int x1] [.int s0] (hp I J (pm_RT pa pb ga)) Q := by
  exact x_ri rfl (Or.inl rfl) h

theorem bk_Ph_count_151 {k : Nat} {pa pb : Nat} {ga : Nat → Nat} {I : pm_II} {J : pm_JJ} {Q : Option Value → pm_H → Prop} {x1 : Int32} {s0 : Int32} (h : Q (some (.int s0)) (hp I J (pm_RT pa pb ga))) : Px (k + 1) 176 m_Ph_count 151 [.ref 16, .int x1] [.int s0] (hp I J (pm_RT pa pb ga)) Q := by
  exact x_ri rfl (Or.inl rfl) h

theorem bk_Ph_count_159 {k : Nat} {pa pb : Nat} {ga : Nat → Nat} {I : pm_II} {J : pm_JJ} {Q : Option Value → pm_H → Prop} {x1 : Int32} {s0 : Int32} (h : Q (some (.int s0)) (hp I J (pm_RT pa pb ga))) : Px (k + 1) 176 m_Ph_count 159 [.ref 16, .int x1] [.int s0] (hp I J (pm_RT pa pb ga)) Q := by
  exact x_ri rfl (Or.inl rfl) h

theorem bk_Ph_count_167 {k : Nat} {pa pb : Nat} {ga : Nat → Nat} {I : pm_II} {J : pm_JJ} {Q : Option Value → pm_H → Prop} {x1 : Int32} {s0 : Int32} (h : Q (some (.int s0)) (hp I J (pm_RT pa pb ga))) : Px (k + 1) 176 m_Ph_count 167 [.ref 16, .int x1] [.int s0] (hp I J (pm_RT pa pb ga)) Q := by
  exact x_ri rfl (Or.inl rfl) h

theorem bk_Ph_count_179 {k : Nat} {pa pb : Nat} {ga : Nat → Nat} {I : pm_II} {J : pm_JJ} {Q : Option Value → pm_H → Prop} {x1 : Int32} {s0 : Int32} (h : Q (some (.int s0)) (hp I J (pm_RT pa pb ga))) : Px (k + 1) 176 m_Ph_count 179 [.ref 16, .int x1] [.int s0] (hp I J (pm_RT pa pb ga)) Q := by
  exact x_ri rfl (Or.inl rfl) h

theorem bk_Ph_count_187 {k : Nat} {pa pb : Nat} {ga : Nat → Nat} {I : pm_II} {J : pm_JJ} {Q : Option Value → pm_H → Prop} {x1 : Int32} {s0 : Int32} (h : Q (some (.int s0)) (hp I J (pm_RT pa pb ga))) : Px (k + 1) 176 m_Ph_count 187 [.ref 16, .int x1] [.int s0] (hp I J (pm_RT pa pb ga)) Q := by
  exact x_ri rfl (Or.inl rfl) h
