/-! ===== the law's loop ===== -/
abbrev lL (i : Nat) : List Value := [.ref 0, .ref 16, .ref 120, .int (nI i)]
section Law
variable {k i L : Nat} {I : pm_II} {J : pm_JJ} {R : pm_RR} {Q : Option Value → pm_H → Prop} {st : List Value}
theorem J0_len (hL : L ≤ 384) (hJ : J 0 0 = Int64.ofNat L) : ((hp I J R).2.2.1 0 0).toInt.toNat = L := by
  show (J 0 0).toInt.toNat = L
  rw [hJ]
  have : (lN L).toInt = L := lN_toInt (by omega)
  have e : (Int64.ofNat L).toInt = L := this
  rw [e]
  rfl
theorem la_arg (a : Nat) {c : Int} {pc : Nat} (q : Nat) (hc : Int32.ofInt c = nI a) (h1 : pm_ins m_La_law pc = some (.aload_n 0, 1, 0, 0, 0)) (h2 : pm_ins m_La_law (pc + 1) = some (.iload_n 3, 1, 0, 0, 0)) (h3 : pm_ins m_La_law (pc + 2) = some (.iconst c, 1, 0, 0, 0)) (h4 : pm_ins m_La_law (pc + 3) = some (.iadd, 1, 0, 0, 0)) (h5 : pm_ins m_La_law (pc + 4) = some (.iaload, 1, 0, 0, 0)) (hq : pc + 5 = q) (hi : i + a < L) (hL : L ≤ 384) (hJ : J 0 0 = Int64.ofNat L) (hk : Px k 176 m_La_law q (lL i) (.int (I 0 (i + a)) :: st) (hp I J R) Q) : Px k 176 m_La_law pc (lL i) st (hp I J R) Q := by
  refine x_l (pc + 1) h1 rfl rfl ?_
  refine x_l (pc + 2) h2 rfl rfl ?_
  refine x_s (pc + 3) h3 rfl rfl ?_
  refine x_s (pc + 4) h4 rfl rfl ?_
  rw [hc, nI_add]
  refine x_sc q h5 ?_ hq ?_
  · rw [J0_len hL hJ]
    exact vq_in (vqT hi (by omega))
  · show Px k 176 m_La_law q (lL i) (.int (I 0 ((nI (i + a)).toNatClampNeg)) :: st) (hp I J R) Q
    rw [nI_clamp (by omega)]
    exact hk
theorem la_feed {u t pa pb : Nat} {ga : Nat → Nat} (hu : 60000 ≤ u) (hI : Inv t pa pb ga I J) (hi : i + 6 ≤ L) (hL : L ≤ 384) (hJ : J 0 0 = Int64.ofNat L) (hN : ∀ (pa2 pb2 : Nat) (ga2 : Nat → Nat) (I2 : pm_II) (J2 : pm_JJ), Inv (t + 1) pa2 pb2 ga2 I2 J2 → J2 0 0 = Int64.ofNat L → Px 800 176 m_La_law 1401 (lL i) [] (hp I2 J2 (pm_RT pa2 pb2 ga2)) Q) : Px 800 176 m_La_law 204 (lL i) [] (hp I J (pm_RT pa pb ga)) Q := by
  obtain ⟨v, pa2, pb2, ga2, I1, J1, I2, J2, hP, hM, hI2, _⟩ := cp_feed (u := u) (x1 := I 0 (i + 1)) (x2 := I 0 (i + 2)) (x3 := I 0 (i + 3)) (x4 := I 0 (i + 4)) (x5 := I 0 (i + 5)) hu hI
  refine x_l 205 rfl rfl rfl ?_
  refine la_arg 1 210 rfl rfl rfl rfl rfl rfl rfl (by omega) hL hJ ?_
  refine la_arg 2 215 rfl rfl rfl rfl rfl rfl rfl (by omega) hL hJ ?_
  refine la_arg 3 220 rfl rfl rfl rfl rfl rfl rfl (by omega) hL hJ ?_
  refine la_arg 4 225 rfl rfl rfl rfl rfl rfl rfl (by omega) hL hJ ?_
  refine la_arg 5 230 rfl rfl rfl rfl rfl rfl rfl (by omega) hL hJ ?_
  refine x_cv (k := 799) (N' := 176) (b := 16) (As := [.int (I 0 (i + 1)), .int (I 0 (i + 2)), .int (I 0 (i + 3)), .int (I 0 (i + 4)), .int (I 0 (i + 5))]) (rest := []) rfl at_Ph_feed rfl rfl (Nat.le_of_ble_eq_true rfl) (Nat.le_of_ble_eq_true rfl) (Nat.le_refl _) (Nat.le_refl _) rfl (by decide) (by decide) (show 16 < 176 by omega) rfl ?_
  refine x_m ?_ (Px_c0 (hP (fun r h2 => r = some (.int v) ∧ h2 = hp I1 J1 (pm_RT pa2 pb2 ga2)) ⟨rfl, rfl⟩))
  rintro r h2 ⟨⟨rfl, rfl⟩, hc⟩
  have e0 : ∀ j, I1 0 j = I 0 j := fun j => congrFun hc.1 j
  have hJ1 : J1 0 0 = Int64.ofNat L := (congrFun hc.2 0).trans hJ
  refine ⟨rfl, ?_⟩
  refine x_l 234 rfl rfl rfl ?_
  refine la_arg 1 239 rfl rfl rfl rfl rfl rfl rfl (by omega) hL hJ1 ?_
  refine la_arg 2 244 rfl rfl rfl rfl rfl rfl rfl (by omega) hL hJ1 ?_
  refine la_arg 3 249 rfl rfl rfl rfl rfl rfl rfl (by omega) hL hJ1 ?_
  refine la_arg 4 254 rfl rfl rfl rfl rfl rfl rfl (by omega) hL hJ1 ?_
  refine la_arg 5 259 rfl rfl rfl rfl rfl rfl rfl (by omega) hL hJ1 ?_
  rw [e0 (i + 1), e0 (i + 2), e0 (i + 3), e0 (i + 4), e0 (i + 5)]
  refine x_cv (k := 799) (N' := 176) (b := 120) (As := [.int (I 0 (i + 1)), .int (I 0 (i + 2)), .int (I 0 (i + 3)), .int (I 0 (i + 4)), .int (I 0 (i + 5))]) (rest := [.int v]) rfl at_Mo_feed rfl rfl (Nat.le_of_ble_eq_true rfl) (Nat.le_of_ble_eq_true rfl) (Nat.le_refl _) (Nat.le_refl _) rfl (by decide) (by decide) (show 120 < 176 by omega) rfl ?_
  refine x_m ?_ (Px_c0 (hM (fun r h2 => r = some (.int v) ∧ h2 = hp I2 J2 (pm_RT pa2 pb2 ga2)) ⟨rfl, rfl⟩))
  rintro r h2 ⟨⟨rfl, rfl⟩, hc2⟩
  refine ⟨rfl, ?_⟩
  refine x_b 265 rfl rfl rfl (fun _ => ?_) (fun z => absurd rfl z)
  exact hN pa2 pb2 ga2 I2 J2 hI2 ((congrFun hc2.2 0).trans hJ1)
theorem la_end {u t pa pb : Nat} {ga : Nat → Nat} (hu : 60000 ≤ u) (hI : Inv t pa pb ga I J) (hi : i + 6 ≤ L) (hL : L ≤ 384) (hJ : J 0 0 = Int64.ofNat L) (hN : ∀ (pa2 pb2 : Nat) (ga2 : Nat → Nat) (I2 : pm_II) (J2 : pm_JJ), Inv (t + 1) pa2 pb2 ga2 I2 J2 → J2 0 0 = Int64.ofNat L → Px 800 176 m_La_law 1401 (lL i) [] (hp I2 J2 (pm_RT pa2 pb2 ga2)) Q) : Px 800 176 m_La_law 267 (lL i) [] (hp I J (pm_RT pa pb ga)) Q := by
  obtain ⟨v, pa2, pb2, ga2, I1, J1, I2, J2, hP, hM, hI2, _⟩ := cp_end (u := u) (x1 := I 0 (i + 1)) hu hI
  refine x_l 268 rfl rfl rfl ?_
  refine la_arg 1 273 rfl rfl rfl rfl rfl rfl rfl (by omega) hL hJ ?_
  refine x_cv (k := 799) (N' := 176) (b := 16) (As := [.int (I 0 (i + 1))]) (rest := []) rfl at_Ph_end rfl rfl (Nat.le_of_ble_eq_true rfl) (Nat.le_of_ble_eq_true rfl) (Nat.le_refl _) (Nat.le_refl _) rfl (by decide) (by decide) (show 16 < 176 by omega) rfl ?_
  refine x_m ?_ (Px_c0 (hP (fun r h2 => r = some (.int v) ∧ h2 = hp I1 J1 (pm_RT pa2 pb2 ga2)) ⟨rfl, rfl⟩))
  rintro r h2 ⟨⟨rfl, rfl⟩, hc⟩
  have e0 : ∀ j, I1 0 j = I 0 j := fun j => congrFun hc.1 j
  have hJ1 : J1 0 0 = Int64.ofNat L := (congrFun hc.2 0).trans hJ
  refine ⟨rfl, ?_⟩
  refine x_l 277 rfl rfl rfl ?_
  refine la_arg 1 282 rfl rfl rfl rfl rfl rfl rfl (by omega) hL hJ1 ?_
  rw [e0 (i + 1)]
  refine x_cv (k := 799) (N' := 176) (b := 120) (As := [.int (I 0 (i + 1))]) (rest := [.int v]) rfl at_Mo_end rfl rfl (Nat.le_of_ble_eq_true rfl) (Nat.le_of_ble_eq_true rfl) (Nat.le_refl _) (Nat.le_refl _) rfl (by decide) (by decide) (show 120 < 176 by omega) rfl ?_
  refine x_m ?_ (Px_c0 (hM (fun r h2 => r = some (.int v) ∧ h2 = hp I2 J2 (pm_RT pa2 pb2 ga2)) ⟨rfl, rfl⟩))
  rintro r h2 ⟨⟨rfl, rfl⟩, hc2⟩
  refine ⟨rfl, ?_⟩
  refine x_b 288 rfl rfl rfl (fun _ => ?_) (fun z => absurd rfl z)
  exact hN pa2 pb2 ga2 I2 J2 hI2 ((congrFun hc2.2 0).trans hJ1)
theorem la_cut {u t pa pb : Nat} {ga : Nat → Nat} (hu : 60000 ≤ u) (hI : Inv t pa pb ga I J) (hi : i + 6 ≤ L) (hL : L ≤ 384) (hJ : J 0 0 = Int64.ofNat L) (hN : ∀ (pa2 pb2 : Nat) (ga2 : Nat → Nat) (I2 : pm_II) (J2 : pm_JJ), Inv (t + 1) pa2 pb2 ga2 I2 J2 → J2 0 0 = Int64.ofNat L → Px 800 176 m_La_law 1401 (lL i) [] (hp I2 J2 (pm_RT pa2 pb2 ga2)) Q) : Px 800 176 m_La_law 290 (lL i) [] (hp I J (pm_RT pa pb ga)) Q := by
  obtain ⟨v, pa2, pb2, ga2, I1, J1, I2, J2, hP, hM, hI2, _⟩ := cp_cut (u := u)  hu hI
  refine x_l 291 rfl rfl rfl ?_
  refine x_cv (k := 799) (N' := 176) (b := 16) (As := []) (rest := []) rfl at_Ph_cut rfl rfl (Nat.le_of_ble_eq_true rfl) (Nat.le_of_ble_eq_true rfl) (Nat.le_refl _) (Nat.le_refl _) rfl (by decide) (by decide) (show 16 < 176 by omega) rfl ?_
  refine x_m ?_ (Px_c0 (hP (fun r h2 => r = some (.int v) ∧ h2 = hp I1 J1 (pm_RT pa2 pb2 ga2)) ⟨rfl, rfl⟩))
  rintro r h2 ⟨⟨rfl, rfl⟩, hc⟩
  have e0 : ∀ j, I1 0 j = I 0 j := fun j => congrFun hc.1 j
  have hJ1 : J1 0 0 = Int64.ofNat L := (congrFun hc.2 0).trans hJ
  refine ⟨rfl, ?_⟩
  refine x_l 295 rfl rfl rfl ?_
  refine x_cv (k := 799) (N' := 176) (b := 120) (As := []) (rest := [.int v]) rfl at_Mo_cut rfl rfl (Nat.le_of_ble_eq_true rfl) (Nat.le_of_ble_eq_true rfl) (Nat.le_refl _) (Nat.le_refl _) rfl (by decide) (by decide) (show 120 < 176 by omega) rfl ?_
  refine x_m ?_ (Px_c0 (hM (fun r h2 => r = some (.int v) ∧ h2 = hp I2 J2 (pm_RT pa2 pb2 ga2)) ⟨rfl, rfl⟩))
  rintro r h2 ⟨⟨rfl, rfl⟩, hc2⟩
  refine ⟨rfl, ?_⟩
  refine x_b 301 rfl rfl rfl (fun _ => ?_) (fun z => absurd rfl z)
  exact hN pa2 pb2 ga2 I2 J2 hI2 ((congrFun hc2.2 0).trans hJ1)
theorem la_pattern {u t pa pb : Nat} {ga : Nat → Nat} (hu : 60000 ≤ u) (hI : Inv t pa pb ga I J) (hi : i + 6 ≤ L) (hL : L ≤ 384) (hJ : J 0 0 = Int64.ofNat L) (hN : ∀ (pa2 pb2 : Nat) (ga2 : Nat → Nat) (I2 : pm_II) (J2 : pm_JJ), Inv (t + 1) pa2 pb2 ga2 I2 J2 → J2 0 0 = Int64.ofNat L → Px 800 176 m_La_law 1401 (lL i) [] (hp I2 J2 (pm_RT pa2 pb2 ga2)) Q) : Px 800 176 m_La_law 303 (lL i) [] (hp I J (pm_RT pa pb ga)) Q := by
  obtain ⟨v, pa2, pb2, ga2, I1, J1, I2, J2, hP, hM, hI2, _⟩ := cp_pattern (u := u) (x1 := I 0 (i + 1)) (x2 := I 0 (i + 2)) hu hI
  refine x_l 304 rfl rfl rfl ?_
  refine la_arg 1 309 rfl rfl rfl rfl rfl rfl rfl (by omega) hL hJ ?_
  refine la_arg 2 314 rfl rfl rfl rfl rfl rfl rfl (by omega) hL hJ ?_
  refine x_cv (k := 799) (N' := 176) (b := 16) (As := [.int (I 0 (i + 1)), .int (I 0 (i + 2))]) (rest := []) rfl at_Ph_pattern rfl rfl (Nat.le_of_ble_eq_true rfl) (Nat.le_of_ble_eq_true rfl) (Nat.le_refl _) (Nat.le_refl _) rfl (by decide) (by decide) (show 16 < 176 by omega) rfl ?_
  refine x_m ?_ (Px_c0 (hP (fun r h2 => r = some (.int v) ∧ h2 = hp I1 J1 (pm_RT pa2 pb2 ga2)) ⟨rfl, rfl⟩))
  rintro r h2 ⟨⟨rfl, rfl⟩, hc⟩
  have e0 : ∀ j, I1 0 j = I 0 j := fun j => congrFun hc.1 j
  have hJ1 : J1 0 0 = Int64.ofNat L := (congrFun hc.2 0).trans hJ
  refine ⟨rfl, ?_⟩
  refine x_l 318 rfl rfl rfl ?_
  refine la_arg 1 323 rfl rfl rfl rfl rfl rfl rfl (by omega) hL hJ1 ?_
  refine la_arg 2 328 rfl rfl rfl rfl rfl rfl rfl (by omega) hL hJ1 ?_
  rw [e0 (i + 1), e0 (i + 2)]
  refine x_cv (k := 799) (N' := 176) (b := 120) (As := [.int (I 0 (i + 1)), .int (I 0 (i + 2))]) (rest := [.int v]) rfl at_Mo_pattern rfl rfl (Nat.le_of_ble_eq_true rfl) (Nat.le_of_ble_eq_true rfl) (Nat.le_refl _) (Nat.le_refl _) rfl (by decide) (by decide) (show 120 < 176 by omega) rfl ?_
  refine x_m ?_ (Px_c0 (hM (fun r h2 => r = some (.int v) ∧ h2 = hp I2 J2 (pm_RT pa2 pb2 ga2)) ⟨rfl, rfl⟩))
  rintro r h2 ⟨⟨rfl, rfl⟩, hc2⟩
  refine ⟨rfl, ?_⟩
  refine x_b 334 rfl rfl rfl (fun _ => ?_) (fun z => absurd rfl z)
  exact hN pa2 pb2 ga2 I2 J2 hI2 ((congrFun hc2.2 0).trans hJ1)
theorem la_fold {u t pa pb : Nat} {ga : Nat → Nat} (hu : 60000 ≤ u) (hI : Inv t pa pb ga I J) (hi : i + 6 ≤ L) (hL : L ≤ 384) (hJ : J 0 0 = Int64.ofNat L) (hN : ∀ (pa2 pb2 : Nat) (ga2 : Nat → Nat) (I2 : pm_II) (J2 : pm_JJ), Inv (t + 1) pa2 pb2 ga2 I2 J2 → J2 0 0 = Int64.ofNat L → Px 800 176 m_La_law 1401 (lL i) [] (hp I2 J2 (pm_RT pa2 pb2 ga2)) Q) : Px 800 176 m_La_law 336 (lL i) [] (hp I J (pm_RT pa pb ga)) Q := by
  obtain ⟨v, pa2, pb2, ga2, I1, J1, I2, J2, hP, hM, hI2, _⟩ := cp_fold (u := u)  hu hI
  refine x_l 337 rfl rfl rfl ?_
  refine x_cv (k := 799) (N' := 176) (b := 16) (As := []) (rest := []) rfl at_Ph_fold rfl rfl (Nat.le_of_ble_eq_true rfl) (Nat.le_of_ble_eq_true rfl) (Nat.le_refl _) (Nat.le_refl _) rfl (by decide) (by decide) (show 16 < 176 by omega) rfl ?_
  refine x_m ?_ (Px_c0 (hP (fun r h2 => r = some (.int v) ∧ h2 = hp I1 J1 (pm_RT pa2 pb2 ga2)) ⟨rfl, rfl⟩))
  rintro r h2 ⟨⟨rfl, rfl⟩, hc⟩
  have e0 : ∀ j, I1 0 j = I 0 j := fun j => congrFun hc.1 j
  have hJ1 : J1 0 0 = Int64.ofNat L := (congrFun hc.2 0).trans hJ
  refine ⟨rfl, ?_⟩
  refine x_l 341 rfl rfl rfl ?_
  refine x_cv (k := 799) (N' := 176) (b := 120) (As := []) (rest := [.int v]) rfl at_Mo_fold rfl rfl (Nat.le_of_ble_eq_true rfl) (Nat.le_of_ble_eq_true rfl) (Nat.le_refl _) (Nat.le_refl _) rfl (by decide) (by decide) (show 120 < 176 by omega) rfl ?_
  refine x_m ?_ (Px_c0 (hM (fun r h2 => r = some (.int v) ∧ h2 = hp I2 J2 (pm_RT pa2 pb2 ga2)) ⟨rfl, rfl⟩))
  rintro r h2 ⟨⟨rfl, rfl⟩, hc2⟩
  refine ⟨rfl, ?_⟩
  refine x_b 347 rfl rfl rfl (fun _ => ?_) (fun z => absurd rfl z)
  exact hN pa2 pb2 ga2 I2 J2 hI2 ((congrFun hc2.2 0).trans hJ1)
theorem la_book {u t pa pb : Nat} {ga : Nat → Nat} (hu : 60000 ≤ u) (hI : Inv t pa pb ga I J) (hi : i + 6 ≤ L) (hL : L ≤ 384) (hJ : J 0 0 = Int64.ofNat L) (hN : ∀ (pa2 pb2 : Nat) (ga2 : Nat → Nat) (I2 : pm_II) (J2 : pm_JJ), Inv (t + 1) pa2 pb2 ga2 I2 J2 → J2 0 0 = Int64.ofNat L → Px 800 176 m_La_law 1401 (lL i) [] (hp I2 J2 (pm_RT pa2 pb2 ga2)) Q) : Px 800 176 m_La_law 349 (lL i) [] (hp I J (pm_RT pa pb ga)) Q := by
  obtain ⟨v, pa2, pb2, ga2, I1, J1, I2, J2, hP, hM, hI2, _⟩ := cp_book (u := u) (x1 := I 0 (i + 1)) (x2 := I 0 (i + 2)) (x3 := I 0 (i + 3)) hu hI
  refine x_l 350 rfl rfl rfl ?_
  refine la_arg 1 355 rfl rfl rfl rfl rfl rfl rfl (by omega) hL hJ ?_
  refine la_arg 2 360 rfl rfl rfl rfl rfl rfl rfl (by omega) hL hJ ?_
  refine la_arg 3 365 rfl rfl rfl rfl rfl rfl rfl (by omega) hL hJ ?_
  refine x_cv (k := 799) (N' := 176) (b := 16) (As := [.int (I 0 (i + 1)), .int (I 0 (i + 2)), .int (I 0 (i + 3))]) (rest := []) rfl at_Ph_book rfl rfl (Nat.le_of_ble_eq_true rfl) (Nat.le_of_ble_eq_true rfl) (Nat.le_refl _) (Nat.le_refl _) rfl (by decide) (by decide) (show 16 < 176 by omega) rfl ?_
  refine x_m ?_ (Px_c0 (hP (fun r h2 => r = some (.int v) ∧ h2 = hp I1 J1 (pm_RT pa2 pb2 ga2)) ⟨rfl, rfl⟩))
  rintro r h2 ⟨⟨rfl, rfl⟩, hc⟩
  have e0 : ∀ j, I1 0 j = I 0 j := fun j => congrFun hc.1 j
  have hJ1 : J1 0 0 = Int64.ofNat L := (congrFun hc.2 0).trans hJ
  refine ⟨rfl, ?_⟩
  refine x_l 369 rfl rfl rfl ?_
  refine la_arg 1 374 rfl rfl rfl rfl rfl rfl rfl (by omega) hL hJ1 ?_
  refine la_arg 2 379 rfl rfl rfl rfl rfl rfl rfl (by omega) hL hJ1 ?_
  refine la_arg 3 384 rfl rfl rfl rfl rfl rfl rfl (by omega) hL hJ1 ?_
  rw [e0 (i + 1), e0 (i + 2), e0 (i + 3)]
  refine x_cv (k := 799) (N' := 176) (b := 120) (As := [.int (I 0 (i + 1)), .int (I 0 (i + 2)), .int (I 0 (i + 3))]) (rest := [.int v]) rfl at_Mo_book rfl rfl (Nat.le_of_ble_eq_true rfl) (Nat.le_of_ble_eq_true rfl) (Nat.le_refl _) (Nat.le_refl _) rfl (by decide) (by decide) (show 120 < 176 by omega) rfl ?_
  refine x_m ?_ (Px_c0 (hM (fun r h2 => r = some (.int v) ∧ h2 = hp I2 J2 (pm_RT pa2 pb2 ga2)) ⟨rfl, rfl⟩))
  rintro r h2 ⟨⟨rfl, rfl⟩, hc2⟩
  refine ⟨rfl, ?_⟩
  refine x_b 390 rfl rfl rfl (fun _ => ?_) (fun z => absurd rfl z)
  exact hN pa2 pb2 ga2 I2 J2 hI2 ((congrFun hc2.2 0).trans hJ1)
theorem la_page {u t pa pb : Nat} {ga : Nat → Nat} (hu : 60000 ≤ u) (hI : Inv t pa pb ga I J) (hi : i + 6 ≤ L) (hL : L ≤ 384) (hJ : J 0 0 = Int64.ofNat L) (hN : ∀ (pa2 pb2 : Nat) (ga2 : Nat → Nat) (I2 : pm_II) (J2 : pm_JJ), Inv (t + 1) pa2 pb2 ga2 I2 J2 → J2 0 0 = Int64.ofNat L → Px 800 176 m_La_law 1401 (lL i) [] (hp I2 J2 (pm_RT pa2 pb2 ga2)) Q) : Px 800 176 m_La_law 392 (lL i) [] (hp I J (pm_RT pa pb ga)) Q := by
  obtain ⟨v, pa2, pb2, ga2, I1, J1, I2, J2, hP, hM, hI2, _⟩ := cp_page (u := u) (x1 := I 0 (i + 1)) (x2 := I 0 (i + 2)) (x3 := I 0 (i + 3)) (x4 := I 0 (i + 4)) hu hI
  refine x_l 393 rfl rfl rfl ?_
  refine la_arg 1 398 rfl rfl rfl rfl rfl rfl rfl (by omega) hL hJ ?_
  refine la_arg 2 403 rfl rfl rfl rfl rfl rfl rfl (by omega) hL hJ ?_
  refine la_arg 3 408 rfl rfl rfl rfl rfl rfl rfl (by omega) hL hJ ?_
  refine la_arg 4 413 rfl rfl rfl rfl rfl rfl rfl (by omega) hL hJ ?_
  refine x_cv (k := 799) (N' := 176) (b := 16) (As := [.int (I 0 (i + 1)), .int (I 0 (i + 2)), .int (I 0 (i + 3)), .int (I 0 (i + 4))]) (rest := []) rfl at_Ph_page rfl rfl (Nat.le_of_ble_eq_true rfl) (Nat.le_of_ble_eq_true rfl) (Nat.le_refl _) (Nat.le_refl _) rfl (by decide) (by decide) (show 16 < 176 by omega) rfl ?_
  refine x_m ?_ (Px_c0 (hP (fun r h2 => r = some (.int v) ∧ h2 = hp I1 J1 (pm_RT pa2 pb2 ga2)) ⟨rfl, rfl⟩))
  rintro r h2 ⟨⟨rfl, rfl⟩, hc⟩
  have e0 : ∀ j, I1 0 j = I 0 j := fun j => congrFun hc.1 j
  have hJ1 : J1 0 0 = Int64.ofNat L := (congrFun hc.2 0).trans hJ
  refine ⟨rfl, ?_⟩
  refine x_l 417 rfl rfl rfl ?_
  refine la_arg 1 422 rfl rfl rfl rfl rfl rfl rfl (by omega) hL hJ1 ?_
  refine la_arg 2 427 rfl rfl rfl rfl rfl rfl rfl (by omega) hL hJ1 ?_
  refine la_arg 3 432 rfl rfl rfl rfl rfl rfl rfl (by omega) hL hJ1 ?_
  refine la_arg 4 437 rfl rfl rfl rfl rfl rfl rfl (by omega) hL hJ1 ?_
  rw [e0 (i + 1), e0 (i + 2), e0 (i + 3), e0 (i + 4)]
  refine x_cv (k := 799) (N' := 176) (b := 120) (As := [.int (I 0 (i + 1)), .int (I 0 (i + 2)), .int (I 0 (i + 3)), .int (I 0 (i + 4))]) (rest := [.int v]) rfl at_Mo_page rfl rfl (Nat.le_of_ble_eq_true rfl) (Nat.le_of_ble_eq_true rfl) (Nat.le_refl _) (Nat.le_refl _) rfl (by decide) (by decide) (show 120 < 176 by omega) rfl ?_
  refine x_m ?_ (Px_c0 (hM (fun r h2 => r = some (.int v) ∧ h2 = hp I2 J2 (pm_RT pa2 pb2 ga2)) ⟨rfl, rfl⟩))
  rintro r h2 ⟨⟨rfl, rfl⟩, hc2⟩
  refine ⟨rfl, ?_⟩
  refine x_b 443 rfl rfl rfl (fun _ => ?_) (fun z => absurd rfl z)
  exact hN pa2 pb2 ga2 I2 J2 hI2 ((congrFun hc2.2 0).trans hJ1)
theorem la_where {u t pa pb : Nat} {ga : Nat → Nat} (hu : 60000 ≤ u) (hI : Inv t pa pb ga I J) (hi : i + 6 ≤ L) (hL : L ≤ 384) (hJ : J 0 0 = Int64.ofNat L) (hN : ∀ (pa2 pb2 : Nat) (ga2 : Nat → Nat) (I2 : pm_II) (J2 : pm_JJ), Inv (t + 1) pa2 pb2 ga2 I2 J2 → J2 0 0 = Int64.ofNat L → Px 800 176 m_La_law 1401 (lL i) [] (hp I2 J2 (pm_RT pa2 pb2 ga2)) Q) : Px 800 176 m_La_law 445 (lL i) [] (hp I J (pm_RT pa pb ga)) Q := by
  obtain ⟨v, pa2, pb2, ga2, I1, J1, I2, J2, hP, hM, hI2, _⟩ := cp_where (u := u) (x1 := I 0 (i + 1)) (x2 := I 0 (i + 2)) hu hI
  refine x_l 446 rfl rfl rfl ?_
  refine la_arg 1 451 rfl rfl rfl rfl rfl rfl rfl (by omega) hL hJ ?_
  refine la_arg 2 456 rfl rfl rfl rfl rfl rfl rfl (by omega) hL hJ ?_
  refine x_cv (k := 799) (N' := 176) (b := 16) (As := [.int (I 0 (i + 1)), .int (I 0 (i + 2))]) (rest := []) rfl at_Ph_where rfl rfl (Nat.le_of_ble_eq_true rfl) (Nat.le_of_ble_eq_true rfl) (Nat.le_refl _) (Nat.le_refl _) rfl (by decide) (by decide) (show 16 < 176 by omega) rfl ?_
  refine x_m ?_ (Px_c0 (hP (fun r h2 => r = some (.int v) ∧ h2 = hp I1 J1 (pm_RT pa2 pb2 ga2)) ⟨rfl, rfl⟩))
  rintro r h2 ⟨⟨rfl, rfl⟩, hc⟩
  have e0 : ∀ j, I1 0 j = I 0 j := fun j => congrFun hc.1 j
  have hJ1 : J1 0 0 = Int64.ofNat L := (congrFun hc.2 0).trans hJ
  refine ⟨rfl, ?_⟩
  refine x_l 460 rfl rfl rfl ?_
  refine la_arg 1 465 rfl rfl rfl rfl rfl rfl rfl (by omega) hL hJ1 ?_
  refine la_arg 2 470 rfl rfl rfl rfl rfl rfl rfl (by omega) hL hJ1 ?_
  rw [e0 (i + 1), e0 (i + 2)]
  refine x_cv (k := 799) (N' := 176) (b := 120) (As := [.int (I 0 (i + 1)), .int (I 0 (i + 2))]) (rest := [.int v]) rfl at_Mo_where rfl rfl (Nat.le_of_ble_eq_true rfl) (Nat.le_of_ble_eq_true rfl) (Nat.le_refl _) (Nat.le_refl _) rfl (by decide) (by decide) (show 120 < 176 by omega) rfl ?_
  refine x_m ?_ (Px_c0 (hM (fun r h2 => r = some (.int v) ∧ h2 = hp I2 J2 (pm_RT pa2 pb2 ga2)) ⟨rfl, rfl⟩))
  rintro r h2 ⟨⟨rfl, rfl⟩, hc2⟩
  refine ⟨rfl, ?_⟩
  refine x_b 476 rfl rfl rfl (fun _ => ?_) (fun z => absurd rfl z)
  exact hN pa2 pb2 ga2 I2 J2 hI2 ((congrFun hc2.2 0).trans hJ1)
theorem la_draw {u t pa pb : Nat} {ga : Nat → Nat} (hu : 60000 ≤ u) (hI : Inv t pa pb ga I J) (hi : i + 6 ≤ L) (hL : L ≤ 384) (hJ : J 0 0 = Int64.ofNat L) (hN : ∀ (pa2 pb2 : Nat) (ga2 : Nat → Nat) (I2 : pm_II) (J2 : pm_JJ), Inv (t + 1) pa2 pb2 ga2 I2 J2 → J2 0 0 = Int64.ofNat L → Px 800 176 m_La_law 1401 (lL i) [] (hp I2 J2 (pm_RT pa2 pb2 ga2)) Q) : Px 800 176 m_La_law 478 (lL i) [] (hp I J (pm_RT pa pb ga)) Q := by
  obtain ⟨v, pa2, pb2, ga2, I1, J1, I2, J2, hP, hM, hI2, _⟩ := cp_draw (u := u) (x1 := I 0 (i + 1)) hu hI
  refine x_l 479 rfl rfl rfl ?_
  refine la_arg 1 484 rfl rfl rfl rfl rfl rfl rfl (by omega) hL hJ ?_
  refine x_cv (k := 799) (N' := 176) (b := 16) (As := [.int (I 0 (i + 1))]) (rest := []) rfl at_Ph_draw rfl rfl (Nat.le_of_ble_eq_true rfl) (Nat.le_of_ble_eq_true rfl) (Nat.le_refl _) (Nat.le_refl _) rfl (by decide) (by decide) (show 16 < 176 by omega) rfl ?_
  refine x_m ?_ (Px_c0 (hP (fun r h2 => r = some (.int v) ∧ h2 = hp I1 J1 (pm_RT pa2 pb2 ga2)) ⟨rfl, rfl⟩))
  rintro r h2 ⟨⟨rfl, rfl⟩, hc⟩
  have e0 : ∀ j, I1 0 j = I 0 j := fun j => congrFun hc.1 j
  have hJ1 : J1 0 0 = Int64.ofNat L := (congrFun hc.2 0).trans hJ
  refine ⟨rfl, ?_⟩
  refine x_l 488 rfl rfl rfl ?_
  refine la_arg 1 493 rfl rfl rfl rfl rfl rfl rfl (by omega) hL hJ1 ?_
  rw [e0 (i + 1)]
  refine x_cv (k := 799) (N' := 176) (b := 120) (As := [.int (I 0 (i + 1))]) (rest := [.int v]) rfl at_Mo_draw rfl rfl (Nat.le_of_ble_eq_true rfl) (Nat.le_of_ble_eq_true rfl) (Nat.le_refl _) (Nat.le_refl _) rfl (by decide) (by decide) (show 120 < 176 by omega) rfl ?_
  refine x_m ?_ (Px_c0 (hM (fun r h2 => r = some (.int v) ∧ h2 = hp I2 J2 (pm_RT pa2 pb2 ga2)) ⟨rfl, rfl⟩))
  rintro r h2 ⟨⟨rfl, rfl⟩, hc2⟩
  refine ⟨rfl, ?_⟩
  refine x_b 499 rfl rfl rfl (fun _ => ?_) (fun z => absurd rfl z)
  exact hN pa2 pb2 ga2 I2 J2 hI2 ((congrFun hc2.2 0).trans hJ1)
theorem la_point {u t pa pb : Nat} {ga : Nat → Nat} (hu : 60000 ≤ u) (hI : Inv t pa pb ga I J) (hi : i + 6 ≤ L) (hL : L ≤ 384) (hJ : J 0 0 = Int64.ofNat L) (hN : ∀ (pa2 pb2 : Nat) (ga2 : Nat → Nat) (I2 : pm_II) (J2 : pm_JJ), Inv (t + 1) pa2 pb2 ga2 I2 J2 → J2 0 0 = Int64.ofNat L → Px 800 176 m_La_law 1401 (lL i) [] (hp I2 J2 (pm_RT pa2 pb2 ga2)) Q) : Px 800 176 m_La_law 501 (lL i) [] (hp I J (pm_RT pa pb ga)) Q := by
  obtain ⟨v, pa2, pb2, ga2, I1, J1, I2, J2, hP, hM, hI2, _⟩ := cp_point (u := u) (x1 := I 0 (i + 1)) (x2 := I 0 (i + 2)) (x3 := I 0 (i + 3)) (x4 := I 0 (i + 4)) hu hI
  refine x_l 502 rfl rfl rfl ?_
  refine la_arg 1 507 rfl rfl rfl rfl rfl rfl rfl (by omega) hL hJ ?_
  refine la_arg 2 512 rfl rfl rfl rfl rfl rfl rfl (by omega) hL hJ ?_
  refine la_arg 3 517 rfl rfl rfl rfl rfl rfl rfl (by omega) hL hJ ?_
  refine la_arg 4 522 rfl rfl rfl rfl rfl rfl rfl (by omega) hL hJ ?_
  refine x_cv (k := 799) (N' := 176) (b := 16) (As := [.int (I 0 (i + 1)), .int (I 0 (i + 2)), .int (I 0 (i + 3)), .int (I 0 (i + 4))]) (rest := []) rfl at_Ph_point rfl rfl (Nat.le_of_ble_eq_true rfl) (Nat.le_of_ble_eq_true rfl) (Nat.le_refl _) (Nat.le_refl _) rfl (by decide) (by decide) (show 16 < 176 by omega) rfl ?_
  refine x_m ?_ (Px_c0 (hP (fun r h2 => r = some (.int v) ∧ h2 = hp I1 J1 (pm_RT pa2 pb2 ga2)) ⟨rfl, rfl⟩))
  rintro r h2 ⟨⟨rfl, rfl⟩, hc⟩
  have e0 : ∀ j, I1 0 j = I 0 j := fun j => congrFun hc.1 j
  have hJ1 : J1 0 0 = Int64.ofNat L := (congrFun hc.2 0).trans hJ
  refine ⟨rfl, ?_⟩
  refine x_l 526 rfl rfl rfl ?_
  refine la_arg 1 531 rfl rfl rfl rfl rfl rfl rfl (by omega) hL hJ1 ?_
  refine la_arg 2 536 rfl rfl rfl rfl rfl rfl rfl (by omega) hL hJ1 ?_
  refine la_arg 3 541 rfl rfl rfl rfl rfl rfl rfl (by omega) hL hJ1 ?_
  refine la_arg 4 546 rfl rfl rfl rfl rfl rfl rfl (by omega) hL hJ1 ?_
  rw [e0 (i + 1), e0 (i + 2), e0 (i + 3), e0 (i + 4)]
  refine x_cv (k := 799) (N' := 176) (b := 120) (As := [.int (I 0 (i + 1)), .int (I 0 (i + 2)), .int (I 0 (i + 3)), .int (I 0 (i + 4))]) (rest := [.int v]) rfl at_Mo_point rfl rfl (Nat.le_of_ble_eq_true rfl) (Nat.le_of_ble_eq_true rfl) (Nat.le_refl _) (Nat.le_refl _) rfl (by decide) (by decide) (show 120 < 176 by omega) rfl ?_
  refine x_m ?_ (Px_c0 (hM (fun r h2 => r = some (.int v) ∧ h2 = hp I2 J2 (pm_RT pa2 pb2 ga2)) ⟨rfl, rfl⟩))
  rintro r h2 ⟨⟨rfl, rfl⟩, hc2⟩
  refine ⟨rfl, ?_⟩
  refine x_b 552 rfl rfl rfl (fun _ => ?_) (fun z => absurd rfl z)
  exact hN pa2 pb2 ga2 I2 J2 hI2 ((congrFun hc2.2 0).trans hJ1)
theorem la_mount {u t pa pb : Nat} {ga : Nat → Nat} (hu : 60000 ≤ u) (hI : Inv t pa pb ga I J) (hi : i + 6 ≤ L) (hL : L ≤ 384) (hJ : J 0 0 = Int64.ofNat L) (hN : ∀ (pa2 pb2 : Nat) (ga2 : Nat → Nat) (I2 : pm_II) (J2 : pm_JJ), Inv (t + 1) pa2 pb2 ga2 I2 J2 → J2 0 0 = Int64.ofNat L → Px 800 176 m_La_law 1401 (lL i) [] (hp I2 J2 (pm_RT pa2 pb2 ga2)) Q) : Px 800 176 m_La_law 554 (lL i) [] (hp I J (pm_RT pa pb ga)) Q := by
  obtain ⟨v, pa2, pb2, ga2, I1, J1, I2, J2, hP, hM, hI2, _⟩ := cp_mount (u := u) (x1 := I 0 (i + 1)) (x2 := I 0 (i + 2)) hu hI
  refine x_l 555 rfl rfl rfl ?_
  refine la_arg 1 560 rfl rfl rfl rfl rfl rfl rfl (by omega) hL hJ ?_
  refine la_arg 2 565 rfl rfl rfl rfl rfl rfl rfl (by omega) hL hJ ?_
  refine x_cv (k := 799) (N' := 176) (b := 16) (As := [.int (I 0 (i + 1)), .int (I 0 (i + 2))]) (rest := []) rfl at_Ph_mount rfl rfl (Nat.le_of_ble_eq_true rfl) (Nat.le_of_ble_eq_true rfl) (Nat.le_refl _) (Nat.le_refl _) rfl (by decide) (by decide) (show 16 < 176 by omega) rfl ?_
  refine x_m ?_ (Px_c0 (hP (fun r h2 => r = some (.int v) ∧ h2 = hp I1 J1 (pm_RT pa2 pb2 ga2)) ⟨rfl, rfl⟩))
  rintro r h2 ⟨⟨rfl, rfl⟩, hc⟩
  have e0 : ∀ j, I1 0 j = I 0 j := fun j => congrFun hc.1 j
  have hJ1 : J1 0 0 = Int64.ofNat L := (congrFun hc.2 0).trans hJ
  refine ⟨rfl, ?_⟩
  refine x_l 569 rfl rfl rfl ?_
  refine la_arg 1 574 rfl rfl rfl rfl rfl rfl rfl (by omega) hL hJ1 ?_
  refine la_arg 2 579 rfl rfl rfl rfl rfl rfl rfl (by omega) hL hJ1 ?_
  rw [e0 (i + 1), e0 (i + 2)]
  refine x_cv (k := 799) (N' := 176) (b := 120) (As := [.int (I 0 (i + 1)), .int (I 0 (i + 2))]) (rest := [.int v]) rfl at_Mo_mount rfl rfl (Nat.le_of_ble_eq_true rfl) (Nat.le_of_ble_eq_true rfl) (Nat.le_refl _) (Nat.le_refl _) rfl (by decide) (by decide) (show 120 < 176 by omega) rfl ?_
  refine x_m ?_ (Px_c0 (hM (fun r h2 => r = some (.int v) ∧ h2 = hp I2 J2 (pm_RT pa2 pb2 ga2)) ⟨rfl, rfl⟩))
  rintro r h2 ⟨⟨rfl, rfl⟩, hc2⟩
  refine ⟨rfl, ?_⟩
  refine x_b 585 rfl rfl rfl (fun _ => ?_) (fun z => absurd rfl z)
  exact hN pa2 pb2 ga2 I2 J2 hI2 ((congrFun hc2.2 0).trans hJ1)
theorem la_key {u t pa pb : Nat} {ga : Nat → Nat} (hu : 60000 ≤ u) (hI : Inv t pa pb ga I J) (hi : i + 6 ≤ L) (hL : L ≤ 384) (hJ : J 0 0 = Int64.ofNat L) (hN : ∀ (pa2 pb2 : Nat) (ga2 : Nat → Nat) (I2 : pm_II) (J2 : pm_JJ), Inv (t + 1) pa2 pb2 ga2 I2 J2 → J2 0 0 = Int64.ofNat L → Px 800 176 m_La_law 1401 (lL i) [] (hp I2 J2 (pm_RT pa2 pb2 ga2)) Q) : Px 800 176 m_La_law 587 (lL i) [] (hp I J (pm_RT pa pb ga)) Q := by
  obtain ⟨v, pa2, pb2, ga2, I1, J1, I2, J2, hP, hM, hI2, _⟩ := cp_key (u := u) (x1 := I 0 (i + 1)) (x2 := I 0 (i + 2)) hu hI
  refine x_l 588 rfl rfl rfl ?_
  refine la_arg 1 593 rfl rfl rfl rfl rfl rfl rfl (by omega) hL hJ ?_
  refine la_arg 2 598 rfl rfl rfl rfl rfl rfl rfl (by omega) hL hJ ?_
  refine x_cv (k := 799) (N' := 176) (b := 16) (As := [.int (I 0 (i + 1)), .int (I 0 (i + 2))]) (rest := []) rfl at_Ph_key rfl rfl (Nat.le_of_ble_eq_true rfl) (Nat.le_of_ble_eq_true rfl) (Nat.le_refl _) (Nat.le_refl _) rfl (by decide) (by decide) (show 16 < 176 by omega) rfl ?_
  refine x_m ?_ (Px_c0 (hP (fun r h2 => r = some (.int v) ∧ h2 = hp I1 J1 (pm_RT pa2 pb2 ga2)) ⟨rfl, rfl⟩))
  rintro r h2 ⟨⟨rfl, rfl⟩, hc⟩
  have e0 : ∀ j, I1 0 j = I 0 j := fun j => congrFun hc.1 j
  have hJ1 : J1 0 0 = Int64.ofNat L := (congrFun hc.2 0).trans hJ
  refine ⟨rfl, ?_⟩
  refine x_l 602 rfl rfl rfl ?_
  refine la_arg 1 607 rfl rfl rfl rfl rfl rfl rfl (by omega) hL hJ1 ?_
  refine la_arg 2 612 rfl rfl rfl rfl rfl rfl rfl (by omega) hL hJ1 ?_
  rw [e0 (i + 1), e0 (i + 2)]
  refine x_cv (k := 799) (N' := 176) (b := 120) (As := [.int (I 0 (i + 1)), .int (I 0 (i + 2))]) (rest := [.int v]) rfl at_Mo_key rfl rfl (Nat.le_of_ble_eq_true rfl) (Nat.le_of_ble_eq_true rfl) (Nat.le_refl _) (Nat.le_refl _) rfl (by decide) (by decide) (show 120 < 176 by omega) rfl ?_
  refine x_m ?_ (Px_c0 (hM (fun r h2 => r = some (.int v) ∧ h2 = hp I2 J2 (pm_RT pa2 pb2 ga2)) ⟨rfl, rfl⟩))
  rintro r h2 ⟨⟨rfl, rfl⟩, hc2⟩
  refine ⟨rfl, ?_⟩
  refine x_b 618 rfl rfl rfl (fun _ => ?_) (fun z => absurd rfl z)
  exact hN pa2 pb2 ga2 I2 J2 hI2 ((congrFun hc2.2 0).trans hJ1)
theorem la_aim {u t pa pb : Nat} {ga : Nat → Nat} (hu : 60000 ≤ u) (hI : Inv t pa pb ga I J) (hi : i + 6 ≤ L) (hL : L ≤ 384) (hJ : J 0 0 = Int64.ofNat L) (hN : ∀ (pa2 pb2 : Nat) (ga2 : Nat → Nat) (I2 : pm_II) (J2 : pm_JJ), Inv (t + 1) pa2 pb2 ga2 I2 J2 → J2 0 0 = Int64.ofNat L → Px 800 176 m_La_law 1401 (lL i) [] (hp I2 J2 (pm_RT pa2 pb2 ga2)) Q) : Px 800 176 m_La_law 620 (lL i) [] (hp I J (pm_RT pa pb ga)) Q := by
  obtain ⟨v, pa2, pb2, ga2, I1, J1, I2, J2, hP, hM, hI2, _⟩ := cp_aim (u := u) (x1 := I 0 (i + 1)) (x2 := I 0 (i + 2)) (x3 := I 0 (i + 3)) hu hI
  refine x_l 621 rfl rfl rfl ?_
  refine la_arg 1 626 rfl rfl rfl rfl rfl rfl rfl (by omega) hL hJ ?_
  refine la_arg 2 631 rfl rfl rfl rfl rfl rfl rfl (by omega) hL hJ ?_
  refine la_arg 3 636 rfl rfl rfl rfl rfl rfl rfl (by omega) hL hJ ?_
  refine x_cv (k := 799) (N' := 176) (b := 16) (As := [.int (I 0 (i + 1)), .int (I 0 (i + 2)), .int (I 0 (i + 3))]) (rest := []) rfl at_Ph_aim rfl rfl (Nat.le_of_ble_eq_true rfl) (Nat.le_of_ble_eq_true rfl) (Nat.le_refl _) (Nat.le_refl _) rfl (by decide) (by decide) (show 16 < 176 by omega) rfl ?_
  refine x_m ?_ (Px_c0 (hP (fun r h2 => r = some (.int v) ∧ h2 = hp I1 J1 (pm_RT pa2 pb2 ga2)) ⟨rfl, rfl⟩))
  rintro r h2 ⟨⟨rfl, rfl⟩, hc⟩
  have e0 : ∀ j, I1 0 j = I 0 j := fun j => congrFun hc.1 j
  have hJ1 : J1 0 0 = Int64.ofNat L := (congrFun hc.2 0).trans hJ
  refine ⟨rfl, ?_⟩
  refine x_l 640 rfl rfl rfl ?_
  refine la_arg 1 645 rfl rfl rfl rfl rfl rfl rfl (by omega) hL hJ1 ?_
  refine la_arg 2 650 rfl rfl rfl rfl rfl rfl rfl (by omega) hL hJ1 ?_
  refine la_arg 3 655 rfl rfl rfl rfl rfl rfl rfl (by omega) hL hJ1 ?_
  rw [e0 (i + 1), e0 (i + 2), e0 (i + 3)]
  refine x_cv (k := 799) (N' := 176) (b := 120) (As := [.int (I 0 (i + 1)), .int (I 0 (i + 2)), .int (I 0 (i + 3))]) (rest := [.int v]) rfl at_Mo_aim rfl rfl (Nat.le_of_ble_eq_true rfl) (Nat.le_of_ble_eq_true rfl) (Nat.le_refl _) (Nat.le_refl _) rfl (by decide) (by decide) (show 120 < 176 by omega) rfl ?_
  refine x_m ?_ (Px_c0 (hM (fun r h2 => r = some (.int v) ∧ h2 = hp I2 J2 (pm_RT pa2 pb2 ga2)) ⟨rfl, rfl⟩))
  rintro r h2 ⟨⟨rfl, rfl⟩, hc2⟩
  refine ⟨rfl, ?_⟩
  refine x_b 661 rfl rfl rfl (fun _ => ?_) (fun z => absurd rfl z)
  exact hN pa2 pb2 ga2 I2 J2 hI2 ((congrFun hc2.2 0).trans hJ1)
theorem la_settled {u t pa pb : Nat} {ga : Nat → Nat} (hu : 60000 ≤ u) (hI : Inv t pa pb ga I J) (hi : i + 6 ≤ L) (hL : L ≤ 384) (hJ : J 0 0 = Int64.ofNat L) (hN : ∀ (pa2 pb2 : Nat) (ga2 : Nat → Nat) (I2 : pm_II) (J2 : pm_JJ), Inv (t + 1) pa2 pb2 ga2 I2 J2 → J2 0 0 = Int64.ofNat L → Px 800 176 m_La_law 1401 (lL i) [] (hp I2 J2 (pm_RT pa2 pb2 ga2)) Q) : Px 800 176 m_La_law 663 (lL i) [] (hp I J (pm_RT pa pb ga)) Q := by
  obtain ⟨v, pa2, pb2, ga2, I1, J1, I2, J2, hP, hM, hI2, _⟩ := cp_settled (u := u) (x1 := I 0 (i + 1)) hu hI
  refine x_l 664 rfl rfl rfl ?_
  refine la_arg 1 669 rfl rfl rfl rfl rfl rfl rfl (by omega) hL hJ ?_
  refine x_cv (k := 799) (N' := 176) (b := 16) (As := [.int (I 0 (i + 1))]) (rest := []) rfl at_Ph_settled rfl rfl (Nat.le_of_ble_eq_true rfl) (Nat.le_of_ble_eq_true rfl) (Nat.le_refl _) (Nat.le_refl _) rfl (by decide) (by decide) (show 16 < 176 by omega) rfl ?_
  refine x_m ?_ (Px_c0 (hP (fun r h2 => r = some (.int v) ∧ h2 = hp I1 J1 (pm_RT pa2 pb2 ga2)) ⟨rfl, rfl⟩))
  rintro r h2 ⟨⟨rfl, rfl⟩, hc⟩
  have e0 : ∀ j, I1 0 j = I 0 j := fun j => congrFun hc.1 j
  have hJ1 : J1 0 0 = Int64.ofNat L := (congrFun hc.2 0).trans hJ
  refine ⟨rfl, ?_⟩
  refine x_l 673 rfl rfl rfl ?_
  refine la_arg 1 678 rfl rfl rfl rfl rfl rfl rfl (by omega) hL hJ1 ?_
  rw [e0 (i + 1)]
  refine x_cv (k := 799) (N' := 176) (b := 120) (As := [.int (I 0 (i + 1))]) (rest := [.int v]) rfl at_Mo_settled rfl rfl (Nat.le_of_ble_eq_true rfl) (Nat.le_of_ble_eq_true rfl) (Nat.le_refl _) (Nat.le_refl _) rfl (by decide) (by decide) (show 120 < 176 by omega) rfl ?_
  refine x_m ?_ (Px_c0 (hM (fun r h2 => r = some (.int v) ∧ h2 = hp I2 J2 (pm_RT pa2 pb2 ga2)) ⟨rfl, rfl⟩))
  rintro r h2 ⟨⟨rfl, rfl⟩, hc2⟩
  refine ⟨rfl, ?_⟩
  refine x_b 684 rfl rfl rfl (fun _ => ?_) (fun z => absurd rfl z)
  exact hN pa2 pb2 ga2 I2 J2 hI2 ((congrFun hc2.2 0).trans hJ1)
theorem la_print {u t pa pb : Nat} {ga : Nat → Nat} (hu : 60000 ≤ u) (hI : Inv t pa pb ga I J) (hi : i + 6 ≤ L) (hL : L ≤ 384) (hJ : J 0 0 = Int64.ofNat L) (hN : ∀ (pa2 pb2 : Nat) (ga2 : Nat → Nat) (I2 : pm_II) (J2 : pm_JJ), Inv (t + 1) pa2 pb2 ga2 I2 J2 → J2 0 0 = Int64.ofNat L → Px 800 176 m_La_law 1401 (lL i) [] (hp I2 J2 (pm_RT pa2 pb2 ga2)) Q) : Px 800 176 m_La_law 686 (lL i) [] (hp I J (pm_RT pa pb ga)) Q := by
  obtain ⟨v, pa2, pb2, ga2, I1, J1, I2, J2, hP, hM, hI2, _⟩ := cp_print (u := u) (x1 := I 0 (i + 1)) hu hI
  refine x_l 687 rfl rfl rfl ?_
  refine la_arg 1 692 rfl rfl rfl rfl rfl rfl rfl (by omega) hL hJ ?_
  refine x_cv (k := 799) (N' := 176) (b := 16) (As := [.int (I 0 (i + 1))]) (rest := []) rfl at_Ph_print rfl rfl (Nat.le_of_ble_eq_true rfl) (Nat.le_of_ble_eq_true rfl) (Nat.le_refl _) (Nat.le_refl _) rfl (by decide) (by decide) (show 16 < 176 by omega) rfl ?_
  refine x_m ?_ (Px_c0 (hP (fun r h2 => r = some (.int v) ∧ h2 = hp I1 J1 (pm_RT pa2 pb2 ga2)) ⟨rfl, rfl⟩))
  rintro r h2 ⟨⟨rfl, rfl⟩, hc⟩
  have e0 : ∀ j, I1 0 j = I 0 j := fun j => congrFun hc.1 j
  have hJ1 : J1 0 0 = Int64.ofNat L := (congrFun hc.2 0).trans hJ
  refine ⟨rfl, ?_⟩
  refine x_l 696 rfl rfl rfl ?_
  refine la_arg 1 701 rfl rfl rfl rfl rfl rfl rfl (by omega) hL hJ1 ?_
  rw [e0 (i + 1)]
  refine x_cv (k := 799) (N' := 176) (b := 120) (As := [.int (I 0 (i + 1))]) (rest := [.int v]) rfl at_Mo_print rfl rfl (Nat.le_of_ble_eq_true rfl) (Nat.le_of_ble_eq_true rfl) (Nat.le_refl _) (Nat.le_refl _) rfl (by decide) (by decide) (show 120 < 176 by omega) rfl ?_
  refine x_m ?_ (Px_c0 (hM (fun r h2 => r = some (.int v) ∧ h2 = hp I2 J2 (pm_RT pa2 pb2 ga2)) ⟨rfl, rfl⟩))
  rintro r h2 ⟨⟨rfl, rfl⟩, hc2⟩
  refine ⟨rfl, ?_⟩
  refine x_b 707 rfl rfl rfl (fun _ => ?_) (fun z => absurd rfl z)
  exact hN pa2 pb2 ga2 I2 J2 hI2 ((congrFun hc2.2 0).trans hJ1)
theorem la_good {u t pa pb : Nat} {ga : Nat → Nat} (hu : 60000 ≤ u) (hI : Inv t pa pb ga I J) (hi : i + 6 ≤ L) (hL : L ≤ 384) (hJ : J 0 0 = Int64.ofNat L) (hN : ∀ (pa2 pb2 : Nat) (ga2 : Nat → Nat) (I2 : pm_II) (J2 : pm_JJ), Inv (t + 1) pa2 pb2 ga2 I2 J2 → J2 0 0 = Int64.ofNat L → Px 800 176 m_La_law 1401 (lL i) [] (hp I2 J2 (pm_RT pa2 pb2 ga2)) Q) : Px 800 176 m_La_law 709 (lL i) [] (hp I J (pm_RT pa pb ga)) Q := by
  obtain ⟨v, pa2, pb2, ga2, I1, J1, I2, J2, hP, hM, hI2, _⟩ := cp_good (u := u) (x1 := I 0 (i + 1)) hu hI
  refine x_l 710 rfl rfl rfl ?_
  refine la_arg 1 715 rfl rfl rfl rfl rfl rfl rfl (by omega) hL hJ ?_
  refine x_cv (k := 799) (N' := 176) (b := 16) (As := [.int (I 0 (i + 1))]) (rest := []) rfl at_Ph_good rfl rfl (Nat.le_of_ble_eq_true rfl) (Nat.le_of_ble_eq_true rfl) (Nat.le_refl _) (Nat.le_refl _) rfl (by decide) (by decide) (show 16 < 176 by omega) rfl ?_
  refine x_m ?_ (Px_c0 (hP (fun r h2 => r = some (.int v) ∧ h2 = hp I1 J1 (pm_RT pa2 pb2 ga2)) ⟨rfl, rfl⟩))
  rintro r h2 ⟨⟨rfl, rfl⟩, hc⟩
  have e0 : ∀ j, I1 0 j = I 0 j := fun j => congrFun hc.1 j
  have hJ1 : J1 0 0 = Int64.ofNat L := (congrFun hc.2 0).trans hJ
  refine ⟨rfl, ?_⟩
  refine x_l 719 rfl rfl rfl ?_
  refine la_arg 1 724 rfl rfl rfl rfl rfl rfl rfl (by omega) hL hJ1 ?_
  rw [e0 (i + 1)]
  refine x_cv (k := 799) (N' := 176) (b := 120) (As := [.int (I 0 (i + 1))]) (rest := [.int v]) rfl at_Mo_good rfl rfl (Nat.le_of_ble_eq_true rfl) (Nat.le_of_ble_eq_true rfl) (Nat.le_refl _) (Nat.le_refl _) rfl (by decide) (by decide) (show 120 < 176 by omega) rfl ?_
  refine x_m ?_ (Px_c0 (hM (fun r h2 => r = some (.int v) ∧ h2 = hp I2 J2 (pm_RT pa2 pb2 ga2)) ⟨rfl, rfl⟩))
  rintro r h2 ⟨⟨rfl, rfl⟩, hc2⟩
  refine ⟨rfl, ?_⟩
  refine x_b 730 rfl rfl rfl (fun _ => ?_) (fun z => absurd rfl z)
  exact hN pa2 pb2 ga2 I2 J2 hI2 ((congrFun hc2.2 0).trans hJ1)
theorem la_zone {u t pa pb : Nat} {ga : Nat → Nat} (hu : 60000 ≤ u) (hI : Inv t pa pb ga I J) (hi : i + 6 ≤ L) (hL : L ≤ 384) (hJ : J 0 0 = Int64.ofNat L) (hN : ∀ (pa2 pb2 : Nat) (ga2 : Nat → Nat) (I2 : pm_II) (J2 : pm_JJ), Inv (t + 1) pa2 pb2 ga2 I2 J2 → J2 0 0 = Int64.ofNat L → Px 800 176 m_La_law 1401 (lL i) [] (hp I2 J2 (pm_RT pa2 pb2 ga2)) Q) : Px 800 176 m_La_law 732 (lL i) [] (hp I J (pm_RT pa pb ga)) Q := by
  obtain ⟨v, pa2, pb2, ga2, I1, J1, I2, J2, hP, hM, hI2, _⟩ := cp_zone (u := u) (x1 := I 0 (i + 1)) (x2 := I 0 (i + 2)) hu hI
  refine x_l 733 rfl rfl rfl ?_
  refine la_arg 1 738 rfl rfl rfl rfl rfl rfl rfl (by omega) hL hJ ?_
  refine la_arg 2 743 rfl rfl rfl rfl rfl rfl rfl (by omega) hL hJ ?_
  refine x_cv (k := 799) (N' := 176) (b := 16) (As := [.int (I 0 (i + 1)), .int (I 0 (i + 2))]) (rest := []) rfl at_Ph_zone rfl rfl (Nat.le_of_ble_eq_true rfl) (Nat.le_of_ble_eq_true rfl) (Nat.le_refl _) (Nat.le_refl _) rfl (by decide) (by decide) (show 16 < 176 by omega) rfl ?_
  refine x_m ?_ (Px_c0 (hP (fun r h2 => r = some (.int v) ∧ h2 = hp I1 J1 (pm_RT pa2 pb2 ga2)) ⟨rfl, rfl⟩))
  rintro r h2 ⟨⟨rfl, rfl⟩, hc⟩
  have e0 : ∀ j, I1 0 j = I 0 j := fun j => congrFun hc.1 j
  have hJ1 : J1 0 0 = Int64.ofNat L := (congrFun hc.2 0).trans hJ
  refine ⟨rfl, ?_⟩
  refine x_l 747 rfl rfl rfl ?_
  refine la_arg 1 752 rfl rfl rfl rfl rfl rfl rfl (by omega) hL hJ1 ?_
  refine la_arg 2 757 rfl rfl rfl rfl rfl rfl rfl (by omega) hL hJ1 ?_
  rw [e0 (i + 1), e0 (i + 2)]
  refine x_cv (k := 799) (N' := 176) (b := 120) (As := [.int (I 0 (i + 1)), .int (I 0 (i + 2))]) (rest := [.int v]) rfl at_Mo_zone rfl rfl (Nat.le_of_ble_eq_true rfl) (Nat.le_of_ble_eq_true rfl) (Nat.le_refl _) (Nat.le_refl _) rfl (by decide) (by decide) (show 120 < 176 by omega) rfl ?_
  refine x_m ?_ (Px_c0 (hM (fun r h2 => r = some (.int v) ∧ h2 = hp I2 J2 (pm_RT pa2 pb2 ga2)) ⟨rfl, rfl⟩))
  rintro r h2 ⟨⟨rfl, rfl⟩, hc2⟩
  refine ⟨rfl, ?_⟩
  refine x_b 763 rfl rfl rfl (fun _ => ?_) (fun z => absurd rfl z)
  exact hN pa2 pb2 ga2 I2 J2 hI2 ((congrFun hc2.2 0).trans hJ1)
theorem la_number {u t pa pb : Nat} {ga : Nat → Nat} (hu : 60000 ≤ u) (hI : Inv t pa pb ga I J) (hi : i + 6 ≤ L) (hL : L ≤ 384) (hJ : J 0 0 = Int64.ofNat L) (hN : ∀ (pa2 pb2 : Nat) (ga2 : Nat → Nat) (I2 : pm_II) (J2 : pm_JJ), Inv (t + 1) pa2 pb2 ga2 I2 J2 → J2 0 0 = Int64.ofNat L → Px 800 176 m_La_law 1401 (lL i) [] (hp I2 J2 (pm_RT pa2 pb2 ga2)) Q) : Px 800 176 m_La_law 765 (lL i) [] (hp I J (pm_RT pa pb ga)) Q := by
  obtain ⟨v, pa2, pb2, ga2, I1, J1, I2, J2, hP, hM, hI2, _⟩ := cp_number (u := u) (x1 := I 0 (i + 1)) hu hI
  refine x_l 766 rfl rfl rfl ?_
  refine la_arg 1 771 rfl rfl rfl rfl rfl rfl rfl (by omega) hL hJ ?_
  refine x_cv (k := 799) (N' := 176) (b := 16) (As := [.int (I 0 (i + 1))]) (rest := []) rfl at_Ph_number rfl rfl (Nat.le_of_ble_eq_true rfl) (Nat.le_of_ble_eq_true rfl) (Nat.le_refl _) (Nat.le_refl _) rfl (by decide) (by decide) (show 16 < 176 by omega) rfl ?_
  refine x_m ?_ (Px_c0 (hP (fun r h2 => r = some (.int v) ∧ h2 = hp I1 J1 (pm_RT pa2 pb2 ga2)) ⟨rfl, rfl⟩))
  rintro r h2 ⟨⟨rfl, rfl⟩, hc⟩
  have e0 : ∀ j, I1 0 j = I 0 j := fun j => congrFun hc.1 j
  have hJ1 : J1 0 0 = Int64.ofNat L := (congrFun hc.2 0).trans hJ
  refine ⟨rfl, ?_⟩
  refine x_l 775 rfl rfl rfl ?_
  refine la_arg 1 780 rfl rfl rfl rfl rfl rfl rfl (by omega) hL hJ1 ?_
  rw [e0 (i + 1)]
  refine x_cv (k := 799) (N' := 176) (b := 120) (As := [.int (I 0 (i + 1))]) (rest := [.int v]) rfl at_Mo_number rfl rfl (Nat.le_of_ble_eq_true rfl) (Nat.le_of_ble_eq_true rfl) (Nat.le_refl _) (Nat.le_refl _) rfl (by decide) (by decide) (show 120 < 176 by omega) rfl ?_
  refine x_m ?_ (Px_c0 (hM (fun r h2 => r = some (.int v) ∧ h2 = hp I2 J2 (pm_RT pa2 pb2 ga2)) ⟨rfl, rfl⟩))
  rintro r h2 ⟨⟨rfl, rfl⟩, hc2⟩
  refine ⟨rfl, ?_⟩
  refine x_b 786 rfl rfl rfl (fun _ => ?_) (fun z => absurd rfl z)
  exact hN pa2 pb2 ga2 I2 J2 hI2 ((congrFun hc2.2 0).trans hJ1)
theorem la_sorts {u t pa pb : Nat} {ga : Nat → Nat} (hu : 60000 ≤ u) (hI : Inv t pa pb ga I J) (hi : i + 6 ≤ L) (hL : L ≤ 384) (hJ : J 0 0 = Int64.ofNat L) (hN : ∀ (pa2 pb2 : Nat) (ga2 : Nat → Nat) (I2 : pm_II) (J2 : pm_JJ), Inv (t + 1) pa2 pb2 ga2 I2 J2 → J2 0 0 = Int64.ofNat L → Px 800 176 m_La_law 1401 (lL i) [] (hp I2 J2 (pm_RT pa2 pb2 ga2)) Q) : Px 800 176 m_La_law 788 (lL i) [] (hp I J (pm_RT pa pb ga)) Q := by
  obtain ⟨v, pa2, pb2, ga2, I1, J1, I2, J2, hP, hM, hI2, _⟩ := cp_sorts (u := u) (x1 := I 0 (i + 1)) (x2 := I 0 (i + 2)) (x3 := I 0 (i + 3)) hu hI
  refine x_l 789 rfl rfl rfl ?_
  refine la_arg 1 794 rfl rfl rfl rfl rfl rfl rfl (by omega) hL hJ ?_
  refine la_arg 2 799 rfl rfl rfl rfl rfl rfl rfl (by omega) hL hJ ?_
  refine la_arg 3 804 rfl rfl rfl rfl rfl rfl rfl (by omega) hL hJ ?_
  refine x_cv (k := 799) (N' := 176) (b := 16) (As := [.int (I 0 (i + 1)), .int (I 0 (i + 2)), .int (I 0 (i + 3))]) (rest := []) rfl at_Ph_sorts rfl rfl (Nat.le_of_ble_eq_true rfl) (Nat.le_of_ble_eq_true rfl) (Nat.le_refl _) (Nat.le_refl _) rfl (by decide) (by decide) (show 16 < 176 by omega) rfl ?_
  refine x_m ?_ (Px_c0 (hP (fun r h2 => r = some (.int v) ∧ h2 = hp I1 J1 (pm_RT pa2 pb2 ga2)) ⟨rfl, rfl⟩))
  rintro r h2 ⟨⟨rfl, rfl⟩, hc⟩
  have e0 : ∀ j, I1 0 j = I 0 j := fun j => congrFun hc.1 j
  have hJ1 : J1 0 0 = Int64.ofNat L := (congrFun hc.2 0).trans hJ
  refine ⟨rfl, ?_⟩
  refine x_l 808 rfl rfl rfl ?_
  refine la_arg 1 813 rfl rfl rfl rfl rfl rfl rfl (by omega) hL hJ1 ?_
  refine la_arg 2 818 rfl rfl rfl rfl rfl rfl rfl (by omega) hL hJ1 ?_
  refine la_arg 3 823 rfl rfl rfl rfl rfl rfl rfl (by omega) hL hJ1 ?_
  rw [e0 (i + 1), e0 (i + 2), e0 (i + 3)]
  refine x_cv (k := 799) (N' := 176) (b := 120) (As := [.int (I 0 (i + 1)), .int (I 0 (i + 2)), .int (I 0 (i + 3))]) (rest := [.int v]) rfl at_Mo_sorts rfl rfl (Nat.le_of_ble_eq_true rfl) (Nat.le_of_ble_eq_true rfl) (Nat.le_refl _) (Nat.le_refl _) rfl (by decide) (by decide) (show 120 < 176 by omega) rfl ?_
  refine x_m ?_ (Px_c0 (hM (fun r h2 => r = some (.int v) ∧ h2 = hp I2 J2 (pm_RT pa2 pb2 ga2)) ⟨rfl, rfl⟩))
  rintro r h2 ⟨⟨rfl, rfl⟩, hc2⟩
  refine ⟨rfl, ?_⟩
  refine x_b 829 rfl rfl rfl (fun _ => ?_) (fun z => absurd rfl z)
  exact hN pa2 pb2 ga2 I2 J2 hI2 ((congrFun hc2.2 0).trans hJ1)
theorem la_set {u t pa pb : Nat} {ga : Nat → Nat} (hu : 60000 ≤ u) (hI : Inv t pa pb ga I J) (hi : i + 6 ≤ L) (hL : L ≤ 384) (hJ : J 0 0 = Int64.ofNat L) (hN : ∀ (pa2 pb2 : Nat) (ga2 : Nat → Nat) (I2 : pm_II) (J2 : pm_JJ), Inv (t + 1) pa2 pb2 ga2 I2 J2 → J2 0 0 = Int64.ofNat L → Px 800 176 m_La_law 1401 (lL i) [] (hp I2 J2 (pm_RT pa2 pb2 ga2)) Q) : Px 800 176 m_La_law 831 (lL i) [] (hp I J (pm_RT pa pb ga)) Q := by
  obtain ⟨v, pa2, pb2, ga2, I1, J1, I2, J2, hP, hM, hI2, _⟩ := cp_set (u := u) (x1 := I 0 (i + 1)) hu hI
  refine x_l 832 rfl rfl rfl ?_
  refine la_arg 1 837 rfl rfl rfl rfl rfl rfl rfl (by omega) hL hJ ?_
  refine x_cv (k := 799) (N' := 176) (b := 16) (As := [.int (I 0 (i + 1))]) (rest := []) rfl at_Ph_set rfl rfl (Nat.le_of_ble_eq_true rfl) (Nat.le_of_ble_eq_true rfl) (Nat.le_refl _) (Nat.le_refl _) rfl (by decide) (by decide) (show 16 < 176 by omega) rfl ?_
  refine x_m ?_ (Px_c0 (hP (fun r h2 => r = some (.int v) ∧ h2 = hp I1 J1 (pm_RT pa2 pb2 ga2)) ⟨rfl, rfl⟩))
  rintro r h2 ⟨⟨rfl, rfl⟩, hc⟩
  have e0 : ∀ j, I1 0 j = I 0 j := fun j => congrFun hc.1 j
  have hJ1 : J1 0 0 = Int64.ofNat L := (congrFun hc.2 0).trans hJ
  refine ⟨rfl, ?_⟩
  refine x_l 841 rfl rfl rfl ?_
  refine la_arg 1 846 rfl rfl rfl rfl rfl rfl rfl (by omega) hL hJ1 ?_
  rw [e0 (i + 1)]
  refine x_cv (k := 799) (N' := 176) (b := 120) (As := [.int (I 0 (i + 1))]) (rest := [.int v]) rfl at_Mo_set rfl rfl (Nat.le_of_ble_eq_true rfl) (Nat.le_of_ble_eq_true rfl) (Nat.le_refl _) (Nat.le_refl _) rfl (by decide) (by decide) (show 120 < 176 by omega) rfl ?_
  refine x_m ?_ (Px_c0 (hM (fun r h2 => r = some (.int v) ∧ h2 = hp I2 J2 (pm_RT pa2 pb2 ga2)) ⟨rfl, rfl⟩))
  rintro r h2 ⟨⟨rfl, rfl⟩, hc2⟩
  refine ⟨rfl, ?_⟩
  refine x_b 852 rfl rfl rfl (fun _ => ?_) (fun z => absurd rfl z)
  exact hN pa2 pb2 ga2 I2 J2 hI2 ((congrFun hc2.2 0).trans hJ1)
theorem la_distribute {u t pa pb : Nat} {ga : Nat → Nat} (hu : 60000 ≤ u) (hI : Inv t pa pb ga I J) (hi : i + 6 ≤ L) (hL : L ≤ 384) (hJ : J 0 0 = Int64.ofNat L) (hN : ∀ (pa2 pb2 : Nat) (ga2 : Nat → Nat) (I2 : pm_II) (J2 : pm_JJ), Inv (t + 1) pa2 pb2 ga2 I2 J2 → J2 0 0 = Int64.ofNat L → Px 800 176 m_La_law 1401 (lL i) [] (hp I2 J2 (pm_RT pa2 pb2 ga2)) Q) : Px 800 176 m_La_law 854 (lL i) [] (hp I J (pm_RT pa pb ga)) Q := by
  obtain ⟨v, pa2, pb2, ga2, I1, J1, I2, J2, hP, hM, hI2, _⟩ := cp_distribute (u := u) (x1 := I 0 (i + 1)) hu hI
  refine x_l 855 rfl rfl rfl ?_
  refine la_arg 1 860 rfl rfl rfl rfl rfl rfl rfl (by omega) hL hJ ?_
  refine x_cv (k := 799) (N' := 176) (b := 16) (As := [.int (I 0 (i + 1))]) (rest := []) rfl at_Ph_distribute rfl rfl (Nat.le_of_ble_eq_true rfl) (Nat.le_of_ble_eq_true rfl) (Nat.le_refl _) (Nat.le_refl _) rfl (by decide) (by decide) (show 16 < 176 by omega) rfl ?_
  refine x_m ?_ (Px_c0 (hP (fun r h2 => r = some (.int v) ∧ h2 = hp I1 J1 (pm_RT pa2 pb2 ga2)) ⟨rfl, rfl⟩))
  rintro r h2 ⟨⟨rfl, rfl⟩, hc⟩
  have e0 : ∀ j, I1 0 j = I 0 j := fun j => congrFun hc.1 j
  have hJ1 : J1 0 0 = Int64.ofNat L := (congrFun hc.2 0).trans hJ
  refine ⟨rfl, ?_⟩
  refine x_l 864 rfl rfl rfl ?_
  refine la_arg 1 869 rfl rfl rfl rfl rfl rfl rfl (by omega) hL hJ1 ?_
  rw [e0 (i + 1)]
  refine x_cv (k := 799) (N' := 176) (b := 120) (As := [.int (I 0 (i + 1))]) (rest := [.int v]) rfl at_Mo_distribute rfl rfl (Nat.le_of_ble_eq_true rfl) (Nat.le_of_ble_eq_true rfl) (Nat.le_refl _) (Nat.le_refl _) rfl (by decide) (by decide) (show 120 < 176 by omega) rfl ?_
  refine x_m ?_ (Px_c0 (hM (fun r h2 => r = some (.int v) ∧ h2 = hp I2 J2 (pm_RT pa2 pb2 ga2)) ⟨rfl, rfl⟩))
  rintro r h2 ⟨⟨rfl, rfl⟩, hc2⟩
  refine ⟨rfl, ?_⟩
  refine x_b 875 rfl rfl rfl (fun _ => ?_) (fun z => absurd rfl z)
  exact hN pa2 pb2 ga2 I2 J2 hI2 ((congrFun hc2.2 0).trans hJ1)
theorem la_line {u t pa pb : Nat} {ga : Nat → Nat} (hu : 60000 ≤ u) (hI : Inv t pa pb ga I J) (hi : i + 6 ≤ L) (hL : L ≤ 384) (hJ : J 0 0 = Int64.ofNat L) (hN : ∀ (pa2 pb2 : Nat) (ga2 : Nat → Nat) (I2 : pm_II) (J2 : pm_JJ), Inv (t + 1) pa2 pb2 ga2 I2 J2 → J2 0 0 = Int64.ofNat L → Px 800 176 m_La_law 1401 (lL i) [] (hp I2 J2 (pm_RT pa2 pb2 ga2)) Q) : Px 800 176 m_La_law 877 (lL i) [] (hp I J (pm_RT pa pb ga)) Q := by
  obtain ⟨v, pa2, pb2, ga2, I1, J1, I2, J2, hP, hM, hI2, _⟩ := cp_line (u := u) (x1 := I 0 (i + 1)) (x2 := I 0 (i + 2)) hu hI
  refine x_l 878 rfl rfl rfl ?_
  refine la_arg 1 883 rfl rfl rfl rfl rfl rfl rfl (by omega) hL hJ ?_
  refine la_arg 2 888 rfl rfl rfl rfl rfl rfl rfl (by omega) hL hJ ?_
  refine x_cv (k := 799) (N' := 176) (b := 16) (As := [.int (I 0 (i + 1)), .int (I 0 (i + 2))]) (rest := []) rfl at_Ph_line rfl rfl (Nat.le_of_ble_eq_true rfl) (Nat.le_of_ble_eq_true rfl) (Nat.le_refl _) (Nat.le_refl _) rfl (by decide) (by decide) (show 16 < 176 by omega) rfl ?_
  refine x_m ?_ (Px_c0 (hP (fun r h2 => r = some (.int v) ∧ h2 = hp I1 J1 (pm_RT pa2 pb2 ga2)) ⟨rfl, rfl⟩))
  rintro r h2 ⟨⟨rfl, rfl⟩, hc⟩
  have e0 : ∀ j, I1 0 j = I 0 j := fun j => congrFun hc.1 j
  have hJ1 : J1 0 0 = Int64.ofNat L := (congrFun hc.2 0).trans hJ
  refine ⟨rfl, ?_⟩
  refine x_l 892 rfl rfl rfl ?_
  refine la_arg 1 897 rfl rfl rfl rfl rfl rfl rfl (by omega) hL hJ1 ?_
  refine la_arg 2 902 rfl rfl rfl rfl rfl rfl rfl (by omega) hL hJ1 ?_
  rw [e0 (i + 1), e0 (i + 2)]
  refine x_cv (k := 799) (N' := 176) (b := 120) (As := [.int (I 0 (i + 1)), .int (I 0 (i + 2))]) (rest := [.int v]) rfl at_Mo_line rfl rfl (Nat.le_of_ble_eq_true rfl) (Nat.le_of_ble_eq_true rfl) (Nat.le_refl _) (Nat.le_refl _) rfl (by decide) (by decide) (show 120 < 176 by omega) rfl ?_
  refine x_m ?_ (Px_c0 (hM (fun r h2 => r = some (.int v) ∧ h2 = hp I2 J2 (pm_RT pa2 pb2 ga2)) ⟨rfl, rfl⟩))
  rintro r h2 ⟨⟨rfl, rfl⟩, hc2⟩
  refine ⟨rfl, ?_⟩
  refine x_b 908 rfl rfl rfl (fun _ => ?_) (fun z => absurd rfl z)
  exact hN pa2 pb2 ga2 I2 J2 hI2 ((congrFun hc2.2 0).trans hJ1)
theorem la_strip {u t pa pb : Nat} {ga : Nat → Nat} (hu : 60000 ≤ u) (hI : Inv t pa pb ga I J) (hi : i + 6 ≤ L) (hL : L ≤ 384) (hJ : J 0 0 = Int64.ofNat L) (hN : ∀ (pa2 pb2 : Nat) (ga2 : Nat → Nat) (I2 : pm_II) (J2 : pm_JJ), Inv (t + 1) pa2 pb2 ga2 I2 J2 → J2 0 0 = Int64.ofNat L → Px 800 176 m_La_law 1401 (lL i) [] (hp I2 J2 (pm_RT pa2 pb2 ga2)) Q) : Px 800 176 m_La_law 910 (lL i) [] (hp I J (pm_RT pa pb ga)) Q := by
  obtain ⟨v, pa2, pb2, ga2, I1, J1, I2, J2, hP, hM, hI2, _⟩ := cp_strip (u := u) (x1 := I 0 (i + 1)) (x2 := I 0 (i + 2)) hu hI
  refine x_l 911 rfl rfl rfl ?_
  refine la_arg 1 916 rfl rfl rfl rfl rfl rfl rfl (by omega) hL hJ ?_
  refine la_arg 2 921 rfl rfl rfl rfl rfl rfl rfl (by omega) hL hJ ?_
  refine x_cv (k := 799) (N' := 176) (b := 16) (As := [.int (I 0 (i + 1)), .int (I 0 (i + 2))]) (rest := []) rfl at_Ph_strip rfl rfl (Nat.le_of_ble_eq_true rfl) (Nat.le_of_ble_eq_true rfl) (Nat.le_refl _) (Nat.le_refl _) rfl (by decide) (by decide) (show 16 < 176 by omega) rfl ?_
  refine x_m ?_ (Px_c0 (hP (fun r h2 => r = some (.int v) ∧ h2 = hp I1 J1 (pm_RT pa2 pb2 ga2)) ⟨rfl, rfl⟩))
  rintro r h2 ⟨⟨rfl, rfl⟩, hc⟩
  have e0 : ∀ j, I1 0 j = I 0 j := fun j => congrFun hc.1 j
  have hJ1 : J1 0 0 = Int64.ofNat L := (congrFun hc.2 0).trans hJ
  refine ⟨rfl, ?_⟩
  refine x_l 925 rfl rfl rfl ?_
  refine la_arg 1 930 rfl rfl rfl rfl rfl rfl rfl (by omega) hL hJ1 ?_
  refine la_arg 2 935 rfl rfl rfl rfl rfl rfl rfl (by omega) hL hJ1 ?_
  rw [e0 (i + 1), e0 (i + 2)]
  refine x_cv (k := 799) (N' := 176) (b := 120) (As := [.int (I 0 (i + 1)), .int (I 0 (i + 2))]) (rest := [.int v]) rfl at_Mo_strip rfl rfl (Nat.le_of_ble_eq_true rfl) (Nat.le_of_ble_eq_true rfl) (Nat.le_refl _) (Nat.le_refl _) rfl (by decide) (by decide) (show 120 < 176 by omega) rfl ?_
  refine x_m ?_ (Px_c0 (hM (fun r h2 => r = some (.int v) ∧ h2 = hp I2 J2 (pm_RT pa2 pb2 ga2)) ⟨rfl, rfl⟩))
  rintro r h2 ⟨⟨rfl, rfl⟩, hc2⟩
  refine ⟨rfl, ?_⟩
  refine x_b 941 rfl rfl rfl (fun _ => ?_) (fun z => absurd rfl z)
  exact hN pa2 pb2 ga2 I2 J2 hI2 ((congrFun hc2.2 0).trans hJ1)
theorem la_left {u t pa pb : Nat} {ga : Nat → Nat} (hu : 60000 ≤ u) (hI : Inv t pa pb ga I J) (hi : i + 6 ≤ L) (hL : L ≤ 384) (hJ : J 0 0 = Int64.ofNat L) (hN : ∀ (pa2 pb2 : Nat) (ga2 : Nat → Nat) (I2 : pm_II) (J2 : pm_JJ), Inv (t + 1) pa2 pb2 ga2 I2 J2 → J2 0 0 = Int64.ofNat L → Px 800 176 m_La_law 1401 (lL i) [] (hp I2 J2 (pm_RT pa2 pb2 ga2)) Q) : Px 800 176 m_La_law 943 (lL i) [] (hp I J (pm_RT pa pb ga)) Q := by
  obtain ⟨v, pa2, pb2, ga2, I1, J1, I2, J2, hP, hM, hI2, _⟩ := cp_left (u := u) (x1 := I 0 (i + 1)) hu hI
  refine x_l 944 rfl rfl rfl ?_
  refine la_arg 1 949 rfl rfl rfl rfl rfl rfl rfl (by omega) hL hJ ?_
  refine x_cv (k := 799) (N' := 176) (b := 16) (As := [.int (I 0 (i + 1))]) (rest := []) rfl at_Ph_left rfl rfl (Nat.le_of_ble_eq_true rfl) (Nat.le_of_ble_eq_true rfl) (Nat.le_refl _) (Nat.le_refl _) rfl (by decide) (by decide) (show 16 < 176 by omega) rfl ?_
  refine x_m ?_ (Px_c0 (hP (fun r h2 => r = some (.int v) ∧ h2 = hp I1 J1 (pm_RT pa2 pb2 ga2)) ⟨rfl, rfl⟩))
  rintro r h2 ⟨⟨rfl, rfl⟩, hc⟩
  have e0 : ∀ j, I1 0 j = I 0 j := fun j => congrFun hc.1 j
  have hJ1 : J1 0 0 = Int64.ofNat L := (congrFun hc.2 0).trans hJ
  refine ⟨rfl, ?_⟩
  refine x_l 953 rfl rfl rfl ?_
  refine la_arg 1 958 rfl rfl rfl rfl rfl rfl rfl (by omega) hL hJ1 ?_
  rw [e0 (i + 1)]
  refine x_cv (k := 799) (N' := 176) (b := 120) (As := [.int (I 0 (i + 1))]) (rest := [.int v]) rfl at_Mo_left rfl rfl (Nat.le_of_ble_eq_true rfl) (Nat.le_of_ble_eq_true rfl) (Nat.le_refl _) (Nat.le_refl _) rfl (by decide) (by decide) (show 120 < 176 by omega) rfl ?_
  refine x_m ?_ (Px_c0 (hM (fun r h2 => r = some (.int v) ∧ h2 = hp I2 J2 (pm_RT pa2 pb2 ga2)) ⟨rfl, rfl⟩))
  rintro r h2 ⟨⟨rfl, rfl⟩, hc2⟩
  refine ⟨rfl, ?_⟩
  refine x_b 964 rfl rfl rfl (fun _ => ?_) (fun z => absurd rfl z)
  exact hN pa2 pb2 ga2 I2 J2 hI2 ((congrFun hc2.2 0).trans hJ1)
theorem la_pile {u t pa pb : Nat} {ga : Nat → Nat} (hu : 60000 ≤ u) (hI : Inv t pa pb ga I J) (hi : i + 6 ≤ L) (hL : L ≤ 384) (hJ : J 0 0 = Int64.ofNat L) (hN : ∀ (pa2 pb2 : Nat) (ga2 : Nat → Nat) (I2 : pm_II) (J2 : pm_JJ), Inv (t + 1) pa2 pb2 ga2 I2 J2 → J2 0 0 = Int64.ofNat L → Px 800 176 m_La_law 1401 (lL i) [] (hp I2 J2 (pm_RT pa2 pb2 ga2)) Q) : Px 800 176 m_La_law 966 (lL i) [] (hp I J (pm_RT pa pb ga)) Q := by
  obtain ⟨v, pa2, pb2, ga2, I1, J1, I2, J2, hP, hM, hI2, _⟩ := cp_pile (u := u) (x1 := I 0 (i + 1)) (x2 := I 0 (i + 2)) hu hI
  refine x_l 967 rfl rfl rfl ?_
  refine la_arg 1 972 rfl rfl rfl rfl rfl rfl rfl (by omega) hL hJ ?_
  refine la_arg 2 977 rfl rfl rfl rfl rfl rfl rfl (by omega) hL hJ ?_
  refine x_cv (k := 799) (N' := 176) (b := 16) (As := [.int (I 0 (i + 1)), .int (I 0 (i + 2))]) (rest := []) rfl at_Ph_pile rfl rfl (Nat.le_of_ble_eq_true rfl) (Nat.le_of_ble_eq_true rfl) (Nat.le_refl _) (Nat.le_refl _) rfl (by decide) (by decide) (show 16 < 176 by omega) rfl ?_
  refine x_m ?_ (Px_c0 (hP (fun r h2 => r = some (.int v) ∧ h2 = hp I1 J1 (pm_RT pa2 pb2 ga2)) ⟨rfl, rfl⟩))
  rintro r h2 ⟨⟨rfl, rfl⟩, hc⟩
  have e0 : ∀ j, I1 0 j = I 0 j := fun j => congrFun hc.1 j
  have hJ1 : J1 0 0 = Int64.ofNat L := (congrFun hc.2 0).trans hJ
  refine ⟨rfl, ?_⟩
  refine x_l 981 rfl rfl rfl ?_
  refine la_arg 1 986 rfl rfl rfl rfl rfl rfl rfl (by omega) hL hJ1 ?_
  refine la_arg 2 991 rfl rfl rfl rfl rfl rfl rfl (by omega) hL hJ1 ?_
  rw [e0 (i + 1), e0 (i + 2)]
  refine x_cv (k := 799) (N' := 176) (b := 120) (As := [.int (I 0 (i + 1)), .int (I 0 (i + 2))]) (rest := [.int v]) rfl at_Mo_pile rfl rfl (Nat.le_of_ble_eq_true rfl) (Nat.le_of_ble_eq_true rfl) (Nat.le_refl _) (Nat.le_refl _) rfl (by decide) (by decide) (show 120 < 176 by omega) rfl ?_
  refine x_m ?_ (Px_c0 (hM (fun r h2 => r = some (.int v) ∧ h2 = hp I2 J2 (pm_RT pa2 pb2 ga2)) ⟨rfl, rfl⟩))
  rintro r h2 ⟨⟨rfl, rfl⟩, hc2⟩
  refine ⟨rfl, ?_⟩
  refine x_b 997 rfl rfl rfl (fun _ => ?_) (fun z => absurd rfl z)
  exact hN pa2 pb2 ga2 I2 J2 hI2 ((congrFun hc2.2 0).trans hJ1)
theorem la_piece {u t pa pb : Nat} {ga : Nat → Nat} (hu : 60000 ≤ u) (hI : Inv t pa pb ga I J) (hi : i + 6 ≤ L) (hL : L ≤ 384) (hJ : J 0 0 = Int64.ofNat L) (hN : ∀ (pa2 pb2 : Nat) (ga2 : Nat → Nat) (I2 : pm_II) (J2 : pm_JJ), Inv (t + 1) pa2 pb2 ga2 I2 J2 → J2 0 0 = Int64.ofNat L → Px 800 176 m_La_law 1401 (lL i) [] (hp I2 J2 (pm_RT pa2 pb2 ga2)) Q) : Px 800 176 m_La_law 999 (lL i) [] (hp I J (pm_RT pa pb ga)) Q := by
  obtain ⟨v, pa2, pb2, ga2, I1, J1, I2, J2, hP, hM, hI2, _⟩ := cp_piece (u := u) (x1 := I 0 (i + 1)) (x2 := I 0 (i + 2)) hu hI
  refine x_l 1000 rfl rfl rfl ?_
  refine la_arg 1 1005 rfl rfl rfl rfl rfl rfl rfl (by omega) hL hJ ?_
  refine la_arg 2 1010 rfl rfl rfl rfl rfl rfl rfl (by omega) hL hJ ?_
  refine x_cv (k := 799) (N' := 176) (b := 16) (As := [.int (I 0 (i + 1)), .int (I 0 (i + 2))]) (rest := []) rfl at_Ph_piece rfl rfl (Nat.le_of_ble_eq_true rfl) (Nat.le_of_ble_eq_true rfl) (Nat.le_refl _) (Nat.le_refl _) rfl (by decide) (by decide) (show 16 < 176 by omega) rfl ?_
  refine x_m ?_ (Px_c0 (hP (fun r h2 => r = some (.int v) ∧ h2 = hp I1 J1 (pm_RT pa2 pb2 ga2)) ⟨rfl, rfl⟩))
  rintro r h2 ⟨⟨rfl, rfl⟩, hc⟩
  have e0 : ∀ j, I1 0 j = I 0 j := fun j => congrFun hc.1 j
  have hJ1 : J1 0 0 = Int64.ofNat L := (congrFun hc.2 0).trans hJ
  refine ⟨rfl, ?_⟩
  refine x_l 1014 rfl rfl rfl ?_
  refine la_arg 1 1019 rfl rfl rfl rfl rfl rfl rfl (by omega) hL hJ1 ?_
  refine la_arg 2 1024 rfl rfl rfl rfl rfl rfl rfl (by omega) hL hJ1 ?_
  rw [e0 (i + 1), e0 (i + 2)]
  refine x_cv (k := 799) (N' := 176) (b := 120) (As := [.int (I 0 (i + 1)), .int (I 0 (i + 2))]) (rest := [.int v]) rfl at_Mo_piece rfl rfl (Nat.le_of_ble_eq_true rfl) (Nat.le_of_ble_eq_true rfl) (Nat.le_refl _) (Nat.le_refl _) rfl (by decide) (by decide) (show 120 < 176 by omega) rfl ?_
  refine x_m ?_ (Px_c0 (hM (fun r h2 => r = some (.int v) ∧ h2 = hp I2 J2 (pm_RT pa2 pb2 ga2)) ⟨rfl, rfl⟩))
  rintro r h2 ⟨⟨rfl, rfl⟩, hc2⟩
  refine ⟨rfl, ?_⟩
  refine x_b 1030 rfl rfl rfl (fun _ => ?_) (fun z => absurd rfl z)
  exact hN pa2 pb2 ga2 I2 J2 hI2 ((congrFun hc2.2 0).trans hJ1)
theorem la_on {u t pa pb : Nat} {ga : Nat → Nat} (hu : 60000 ≤ u) (hI : Inv t pa pb ga I J) (hi : i + 6 ≤ L) (hL : L ≤ 384) (hJ : J 0 0 = Int64.ofNat L) (hN : ∀ (pa2 pb2 : Nat) (ga2 : Nat → Nat) (I2 : pm_II) (J2 : pm_JJ), Inv (t + 1) pa2 pb2 ga2 I2 J2 → J2 0 0 = Int64.ofNat L → Px 800 176 m_La_law 1401 (lL i) [] (hp I2 J2 (pm_RT pa2 pb2 ga2)) Q) : Px 800 176 m_La_law 1032 (lL i) [] (hp I J (pm_RT pa pb ga)) Q := by
  obtain ⟨v, pa2, pb2, ga2, I1, J1, I2, J2, hP, hM, hI2, _⟩ := cp_on (u := u) (x1 := I 0 (i + 1)) (x2 := I 0 (i + 2)) hu hI
  refine x_l 1033 rfl rfl rfl ?_
  refine la_arg 1 1038 rfl rfl rfl rfl rfl rfl rfl (by omega) hL hJ ?_
  refine la_arg 2 1043 rfl rfl rfl rfl rfl rfl rfl (by omega) hL hJ ?_
  refine x_cv (k := 799) (N' := 176) (b := 16) (As := [.int (I 0 (i + 1)), .int (I 0 (i + 2))]) (rest := []) rfl at_Ph_on rfl rfl (Nat.le_of_ble_eq_true rfl) (Nat.le_of_ble_eq_true rfl) (Nat.le_refl _) (Nat.le_refl _) rfl (by decide) (by decide) (show 16 < 176 by omega) rfl ?_
  refine x_m ?_ (Px_c0 (hP (fun r h2 => r = some (.int v) ∧ h2 = hp I1 J1 (pm_RT pa2 pb2 ga2)) ⟨rfl, rfl⟩))
  rintro r h2 ⟨⟨rfl, rfl⟩, hc⟩
  have e0 : ∀ j, I1 0 j = I 0 j := fun j => congrFun hc.1 j
  have hJ1 : J1 0 0 = Int64.ofNat L := (congrFun hc.2 0).trans hJ
  refine ⟨rfl, ?_⟩
  refine x_l 1047 rfl rfl rfl ?_
  refine la_arg 1 1052 rfl rfl rfl rfl rfl rfl rfl (by omega) hL hJ1 ?_
  refine la_arg 2 1057 rfl rfl rfl rfl rfl rfl rfl (by omega) hL hJ1 ?_
  rw [e0 (i + 1), e0 (i + 2)]
  refine x_cv (k := 799) (N' := 176) (b := 120) (As := [.int (I 0 (i + 1)), .int (I 0 (i + 2))]) (rest := [.int v]) rfl at_Mo_on rfl rfl (Nat.le_of_ble_eq_true rfl) (Nat.le_of_ble_eq_true rfl) (Nat.le_refl _) (Nat.le_refl _) rfl (by decide) (by decide) (show 120 < 176 by omega) rfl ?_
  refine x_m ?_ (Px_c0 (hM (fun r h2 => r = some (.int v) ∧ h2 = hp I2 J2 (pm_RT pa2 pb2 ga2)) ⟨rfl, rfl⟩))
  rintro r h2 ⟨⟨rfl, rfl⟩, hc2⟩
  refine ⟨rfl, ?_⟩
  refine x_b 1063 rfl rfl rfl (fun _ => ?_) (fun z => absurd rfl z)
  exact hN pa2 pb2 ga2 I2 J2 hI2 ((congrFun hc2.2 0).trans hJ1)
theorem la_gather {u t pa pb : Nat} {ga : Nat → Nat} (hu : 60000 ≤ u) (hI : Inv t pa pb ga I J) (hi : i + 6 ≤ L) (hL : L ≤ 384) (hJ : J 0 0 = Int64.ofNat L) (hN : ∀ (pa2 pb2 : Nat) (ga2 : Nat → Nat) (I2 : pm_II) (J2 : pm_JJ), Inv (t + 1) pa2 pb2 ga2 I2 J2 → J2 0 0 = Int64.ofNat L → Px 800 176 m_La_law 1401 (lL i) [] (hp I2 J2 (pm_RT pa2 pb2 ga2)) Q) : Px 800 176 m_La_law 1065 (lL i) [] (hp I J (pm_RT pa pb ga)) Q := by
  obtain ⟨v, pa2, pb2, ga2, I1, J1, I2, J2, hP, hM, hI2, _⟩ := cp_gather (u := u)  hu hI
  refine x_l 1066 rfl rfl rfl ?_
  refine x_cv (k := 799) (N' := 176) (b := 16) (As := []) (rest := []) rfl at_Ph_gather rfl rfl (Nat.le_of_ble_eq_true rfl) (Nat.le_of_ble_eq_true rfl) (Nat.le_refl _) (Nat.le_refl _) rfl (by decide) (by decide) (show 16 < 176 by omega) rfl ?_
  refine x_m ?_ (Px_c0 (hP (fun r h2 => r = some (.int v) ∧ h2 = hp I1 J1 (pm_RT pa2 pb2 ga2)) ⟨rfl, rfl⟩))
  rintro r h2 ⟨⟨rfl, rfl⟩, hc⟩
  have e0 : ∀ j, I1 0 j = I 0 j := fun j => congrFun hc.1 j
  have hJ1 : J1 0 0 = Int64.ofNat L := (congrFun hc.2 0).trans hJ
  refine ⟨rfl, ?_⟩
  refine x_l 1070 rfl rfl rfl ?_
  refine x_cv (k := 799) (N' := 176) (b := 120) (As := []) (rest := [.int v]) rfl at_Mo_gather rfl rfl (Nat.le_of_ble_eq_true rfl) (Nat.le_of_ble_eq_true rfl) (Nat.le_refl _) (Nat.le_refl _) rfl (by decide) (by decide) (show 120 < 176 by omega) rfl ?_
  refine x_m ?_ (Px_c0 (hM (fun r h2 => r = some (.int v) ∧ h2 = hp I2 J2 (pm_RT pa2 pb2 ga2)) ⟨rfl, rfl⟩))
  rintro r h2 ⟨⟨rfl, rfl⟩, hc2⟩
  refine ⟨rfl, ?_⟩
  refine x_b 1076 rfl rfl rfl (fun _ => ?_) (fun z => absurd rfl z)
  exact hN pa2 pb2 ga2 I2 J2 hI2 ((congrFun hc2.2 0).trans hJ1)
theorem la_letters {u t pa pb : Nat} {ga : Nat → Nat} (hu : 60000 ≤ u) (ht : t ≤ 1000) (hI : Inv t pa pb ga I J) (hi : i + 6 ≤ L) (hL : L ≤ 384) (hJ : J 0 0 = Int64.ofNat L) (hN : ∀ (pa2 pb2 : Nat) (ga2 : Nat → Nat) (I2 : pm_II) (J2 : pm_JJ), Inv (t + 1) pa2 pb2 ga2 I2 J2 → J2 0 0 = Int64.ofNat L → Px 800 176 m_La_law 1401 (lL i) [] (hp I2 J2 (pm_RT pa2 pb2 ga2)) Q) : Px 800 176 m_La_law 1078 (lL i) [] (hp I J (pm_RT pa pb ga)) Q := by
  obtain ⟨v, pa2, pb2, ga2, I1, J1, I2, J2, hP, hM, hI2, _⟩ := cp_letters (u := u)  hu ht hI
  refine x_l 1079 rfl rfl rfl ?_
  refine x_cv (k := 799) (N' := 176) (b := 16) (As := []) (rest := []) rfl at_Ph_letters rfl rfl (Nat.le_of_ble_eq_true rfl) (Nat.le_of_ble_eq_true rfl) (Nat.le_refl _) (Nat.le_refl _) rfl (by decide) (by decide) (show 16 < 176 by omega) rfl ?_
  refine x_m ?_ (Px_c0 (hP (fun r h2 => r = some (.int v) ∧ h2 = hp I1 J1 (pm_RT pa2 pb2 ga2)) ⟨rfl, rfl⟩))
  rintro r h2 ⟨⟨rfl, rfl⟩, hc⟩
  have e0 : ∀ j, I1 0 j = I 0 j := fun j => congrFun hc.1 j
  have hJ1 : J1 0 0 = Int64.ofNat L := (congrFun hc.2 0).trans hJ
  refine ⟨rfl, ?_⟩
  refine x_l 1083 rfl rfl rfl ?_
  refine x_cv (k := 799) (N' := 176) (b := 120) (As := []) (rest := [.int v]) rfl at_Mo_letters rfl rfl (Nat.le_of_ble_eq_true rfl) (Nat.le_of_ble_eq_true rfl) (Nat.le_refl _) (Nat.le_refl _) rfl (by decide) (by decide) (show 120 < 176 by omega) rfl ?_
  refine x_m ?_ (Px_c0 (hM (fun r h2 => r = some (.int v) ∧ h2 = hp I2 J2 (pm_RT pa2 pb2 ga2)) ⟨rfl, rfl⟩))
  rintro r h2 ⟨⟨rfl, rfl⟩, hc2⟩
  refine ⟨rfl, ?_⟩
  refine x_b 1089 rfl rfl rfl (fun _ => ?_) (fun z => absurd rfl z)
  exact hN pa2 pb2 ga2 I2 J2 hI2 ((congrFun hc2.2 0).trans hJ1)
theorem la_bundles {u t pa pb : Nat} {ga : Nat → Nat} (hu : 60000 ≤ u) (hI : Inv t pa pb ga I J) (hi : i + 6 ≤ L) (hL : L ≤ 384) (hJ : J 0 0 = Int64.ofNat L) (hN : ∀ (pa2 pb2 : Nat) (ga2 : Nat → Nat) (I2 : pm_II) (J2 : pm_JJ), Inv (t + 1) pa2 pb2 ga2 I2 J2 → J2 0 0 = Int64.ofNat L → Px 800 176 m_La_law 1401 (lL i) [] (hp I2 J2 (pm_RT pa2 pb2 ga2)) Q) : Px 800 176 m_La_law 1091 (lL i) [] (hp I J (pm_RT pa pb ga)) Q := by
  obtain ⟨v, pa2, pb2, ga2, I1, J1, I2, J2, hP, hM, hI2, _⟩ := cp_bundles (u := u) (x1 := I 0 (i + 1)) (x2 := I 0 (i + 2)) hu hI
  refine x_l 1092 rfl rfl rfl ?_
  refine la_arg 1 1097 rfl rfl rfl rfl rfl rfl rfl (by omega) hL hJ ?_
  refine la_arg 2 1102 rfl rfl rfl rfl rfl rfl rfl (by omega) hL hJ ?_
  refine x_cv (k := 799) (N' := 176) (b := 16) (As := [.int (I 0 (i + 1)), .int (I 0 (i + 2))]) (rest := []) rfl at_Ph_bundles rfl rfl (Nat.le_of_ble_eq_true rfl) (Nat.le_of_ble_eq_true rfl) (Nat.le_refl _) (Nat.le_refl _) rfl (by decide) (by decide) (show 16 < 176 by omega) rfl ?_
  refine x_m ?_ (Px_c0 (hP (fun r h2 => r = some (.int v) ∧ h2 = hp I1 J1 (pm_RT pa2 pb2 ga2)) ⟨rfl, rfl⟩))
  rintro r h2 ⟨⟨rfl, rfl⟩, hc⟩
  have e0 : ∀ j, I1 0 j = I 0 j := fun j => congrFun hc.1 j
  have hJ1 : J1 0 0 = Int64.ofNat L := (congrFun hc.2 0).trans hJ
  refine ⟨rfl, ?_⟩
  refine x_l 1106 rfl rfl rfl ?_
  refine la_arg 1 1111 rfl rfl rfl rfl rfl rfl rfl (by omega) hL hJ1 ?_
  refine la_arg 2 1116 rfl rfl rfl rfl rfl rfl rfl (by omega) hL hJ1 ?_
  rw [e0 (i + 1), e0 (i + 2)]
  refine x_cv (k := 799) (N' := 176) (b := 120) (As := [.int (I 0 (i + 1)), .int (I 0 (i + 2))]) (rest := [.int v]) rfl at_Mo_bundles rfl rfl (Nat.le_of_ble_eq_true rfl) (Nat.le_of_ble_eq_true rfl) (Nat.le_refl _) (Nat.le_refl _) rfl (by decide) (by decide) (show 120 < 176 by omega) rfl ?_
  refine x_m ?_ (Px_c0 (hM (fun r h2 => r = some (.int v) ∧ h2 = hp I2 J2 (pm_RT pa2 pb2 ga2)) ⟨rfl, rfl⟩))
  rintro r h2 ⟨⟨rfl, rfl⟩, hc2⟩
  refine ⟨rfl, ?_⟩
  refine x_b 1122 rfl rfl rfl (fun _ => ?_) (fun z => absurd rfl z)
  exact hN pa2 pb2 ga2 I2 J2 hI2 ((congrFun hc2.2 0).trans hJ1)
theorem la_letter {u t pa pb : Nat} {ga : Nat → Nat} (hu : 60000 ≤ u) (hI : Inv t pa pb ga I J) (hi : i + 6 ≤ L) (hL : L ≤ 384) (hJ : J 0 0 = Int64.ofNat L) (hN : ∀ (pa2 pb2 : Nat) (ga2 : Nat → Nat) (I2 : pm_II) (J2 : pm_JJ), Inv (t + 1) pa2 pb2 ga2 I2 J2 → J2 0 0 = Int64.ofNat L → Px 800 176 m_La_law 1401 (lL i) [] (hp I2 J2 (pm_RT pa2 pb2 ga2)) Q) : Px 800 176 m_La_law 1124 (lL i) [] (hp I J (pm_RT pa pb ga)) Q := by
  obtain ⟨v, pa2, pb2, ga2, I1, J1, I2, J2, hP, hM, hI2, _⟩ := cp_letter (u := u) (x1 := I 0 (i + 1)) (x2 := I 0 (i + 2)) hu hI
  refine x_l 1125 rfl rfl rfl ?_
  refine la_arg 1 1130 rfl rfl rfl rfl rfl rfl rfl (by omega) hL hJ ?_
  refine la_arg 2 1135 rfl rfl rfl rfl rfl rfl rfl (by omega) hL hJ ?_
  refine x_cv (k := 799) (N' := 176) (b := 16) (As := [.int (I 0 (i + 1)), .int (I 0 (i + 2))]) (rest := []) rfl at_Ph_letter rfl rfl (Nat.le_of_ble_eq_true rfl) (Nat.le_of_ble_eq_true rfl) (Nat.le_refl _) (Nat.le_refl _) rfl (by decide) (by decide) (show 16 < 176 by omega) rfl ?_
  refine x_m ?_ (Px_c0 (hP (fun r h2 => r = some (.int v) ∧ h2 = hp I1 J1 (pm_RT pa2 pb2 ga2)) ⟨rfl, rfl⟩))
  rintro r h2 ⟨⟨rfl, rfl⟩, hc⟩
  have e0 : ∀ j, I1 0 j = I 0 j := fun j => congrFun hc.1 j
  have hJ1 : J1 0 0 = Int64.ofNat L := (congrFun hc.2 0).trans hJ
  refine ⟨rfl, ?_⟩
  refine x_l 1139 rfl rfl rfl ?_
  refine la_arg 1 1144 rfl rfl rfl rfl rfl rfl rfl (by omega) hL hJ1 ?_
  refine la_arg 2 1149 rfl rfl rfl rfl rfl rfl rfl (by omega) hL hJ1 ?_
  rw [e0 (i + 1), e0 (i + 2)]
  refine x_cv (k := 799) (N' := 176) (b := 120) (As := [.int (I 0 (i + 1)), .int (I 0 (i + 2))]) (rest := [.int v]) rfl at_Mo_letter rfl rfl (Nat.le_of_ble_eq_true rfl) (Nat.le_of_ble_eq_true rfl) (Nat.le_refl _) (Nat.le_refl _) rfl (by decide) (by decide) (show 120 < 176 by omega) rfl ?_
  refine x_m ?_ (Px_c0 (hM (fun r h2 => r = some (.int v) ∧ h2 = hp I2 J2 (pm_RT pa2 pb2 ga2)) ⟨rfl, rfl⟩))
  rintro r h2 ⟨⟨rfl, rfl⟩, hc2⟩
  refine ⟨rfl, ?_⟩
  refine x_b 1155 rfl rfl rfl (fun _ => ?_) (fun z => absurd rfl z)
  exact hN pa2 pb2 ga2 I2 J2 hI2 ((congrFun hc2.2 0).trans hJ1)
theorem la_bundle {u t pa pb : Nat} {ga : Nat → Nat} (hu : 60000 ≤ u) (hI : Inv t pa pb ga I J) (hi : i + 6 ≤ L) (hL : L ≤ 384) (hJ : J 0 0 = Int64.ofNat L) (hN : ∀ (pa2 pb2 : Nat) (ga2 : Nat → Nat) (I2 : pm_II) (J2 : pm_JJ), Inv (t + 1) pa2 pb2 ga2 I2 J2 → J2 0 0 = Int64.ofNat L → Px 800 176 m_La_law 1401 (lL i) [] (hp I2 J2 (pm_RT pa2 pb2 ga2)) Q) : Px 800 176 m_La_law 1157 (lL i) [] (hp I J (pm_RT pa pb ga)) Q := by
  obtain ⟨v, pa2, pb2, ga2, I1, J1, I2, J2, hP, hM, hI2, _⟩ := cp_bundle (u := u) (x1 := I 0 (i + 1)) (x2 := I 0 (i + 2)) hu hI
  refine x_l 1158 rfl rfl rfl ?_
  refine la_arg 1 1163 rfl rfl rfl rfl rfl rfl rfl (by omega) hL hJ ?_
  refine la_arg 2 1168 rfl rfl rfl rfl rfl rfl rfl (by omega) hL hJ ?_
  refine x_cv (k := 799) (N' := 176) (b := 16) (As := [.int (I 0 (i + 1)), .int (I 0 (i + 2))]) (rest := []) rfl at_Ph_bundle rfl rfl (Nat.le_of_ble_eq_true rfl) (Nat.le_of_ble_eq_true rfl) (Nat.le_refl _) (Nat.le_refl _) rfl (by decide) (by decide) (show 16 < 176 by omega) rfl ?_
  refine x_m ?_ (Px_c0 (hP (fun r h2 => r = some (.int v) ∧ h2 = hp I1 J1 (pm_RT pa2 pb2 ga2)) ⟨rfl, rfl⟩))
  rintro r h2 ⟨⟨rfl, rfl⟩, hc⟩
  have e0 : ∀ j, I1 0 j = I 0 j := fun j => congrFun hc.1 j
  have hJ1 : J1 0 0 = Int64.ofNat L := (congrFun hc.2 0).trans hJ
  refine ⟨rfl, ?_⟩
  refine x_l 1172 rfl rfl rfl ?_
  refine la_arg 1 1177 rfl rfl rfl rfl rfl rfl rfl (by omega) hL hJ1 ?_
  refine la_arg 2 1182 rfl rfl rfl rfl rfl rfl rfl (by omega) hL hJ1 ?_
  rw [e0 (i + 1), e0 (i + 2)]
  refine x_cv (k := 799) (N' := 176) (b := 120) (As := [.int (I 0 (i + 1)), .int (I 0 (i + 2))]) (rest := [.int v]) rfl at_Mo_bundle rfl rfl (Nat.le_of_ble_eq_true rfl) (Nat.le_of_ble_eq_true rfl) (Nat.le_refl _) (Nat.le_refl _) rfl (by decide) (by decide) (show 120 < 176 by omega) rfl ?_
  refine x_m ?_ (Px_c0 (hM (fun r h2 => r = some (.int v) ∧ h2 = hp I2 J2 (pm_RT pa2 pb2 ga2)) ⟨rfl, rfl⟩))
  rintro r h2 ⟨⟨rfl, rfl⟩, hc2⟩
  refine ⟨rfl, ?_⟩
  refine x_b 1188 rfl rfl rfl (fun _ => ?_) (fun z => absurd rfl z)
  exact hN pa2 pb2 ga2 I2 J2 hI2 ((congrFun hc2.2 0).trans hJ1)
theorem la_strike {u t pa pb : Nat} {ga : Nat → Nat} (hu : 60000 ≤ u) (hI : Inv t pa pb ga I J) (hi : i + 6 ≤ L) (hL : L ≤ 384) (hJ : J 0 0 = Int64.ofNat L) (hN : ∀ (pa2 pb2 : Nat) (ga2 : Nat → Nat) (I2 : pm_II) (J2 : pm_JJ), Inv (t + 1) pa2 pb2 ga2 I2 J2 → J2 0 0 = Int64.ofNat L → Px 800 176 m_La_law 1401 (lL i) [] (hp I2 J2 (pm_RT pa2 pb2 ga2)) Q) : Px 800 176 m_La_law 1190 (lL i) [] (hp I J (pm_RT pa pb ga)) Q := by
  obtain ⟨v, pa2, pb2, ga2, I1, J1, I2, J2, hP, hM, hI2, _⟩ := cp_strike (u := u) (x1 := I 0 (i + 1)) hu hI
  refine x_l 1191 rfl rfl rfl ?_
  refine la_arg 1 1196 rfl rfl rfl rfl rfl rfl rfl (by omega) hL hJ ?_
  refine x_cv (k := 799) (N' := 176) (b := 16) (As := [.int (I 0 (i + 1))]) (rest := []) rfl at_Ph_strike rfl rfl (Nat.le_of_ble_eq_true rfl) (Nat.le_of_ble_eq_true rfl) (Nat.le_refl _) (Nat.le_refl _) rfl (by decide) (by decide) (show 16 < 176 by omega) rfl ?_
  refine x_m ?_ (Px_c0 (hP (fun r h2 => r = some (.int v) ∧ h2 = hp I1 J1 (pm_RT pa2 pb2 ga2)) ⟨rfl, rfl⟩))
  rintro r h2 ⟨⟨rfl, rfl⟩, hc⟩
  have e0 : ∀ j, I1 0 j = I 0 j := fun j => congrFun hc.1 j
  have hJ1 : J1 0 0 = Int64.ofNat L := (congrFun hc.2 0).trans hJ
  refine ⟨rfl, ?_⟩
  refine x_l 1200 rfl rfl rfl ?_
  refine la_arg 1 1205 rfl rfl rfl rfl rfl rfl rfl (by omega) hL hJ1 ?_
  rw [e0 (i + 1)]
  refine x_cv (k := 799) (N' := 176) (b := 120) (As := [.int (I 0 (i + 1))]) (rest := [.int v]) rfl at_Mo_strike rfl rfl (Nat.le_of_ble_eq_true rfl) (Nat.le_of_ble_eq_true rfl) (Nat.le_refl _) (Nat.le_refl _) rfl (by decide) (by decide) (show 120 < 176 by omega) rfl ?_
  refine x_m ?_ (Px_c0 (hM (fun r h2 => r = some (.int v) ∧ h2 = hp I2 J2 (pm_RT pa2 pb2 ga2)) ⟨rfl, rfl⟩))
  rintro r h2 ⟨⟨rfl, rfl⟩, hc2⟩
  refine ⟨rfl, ?_⟩
  refine x_b 1211 rfl rfl rfl (fun _ => ?_) (fun z => absurd rfl z)
  exact hN pa2 pb2 ga2 I2 J2 hI2 ((congrFun hc2.2 0).trans hJ1)
theorem la_job {u t pa pb : Nat} {ga : Nat → Nat} (hu : 60000 ≤ u) (hI : Inv t pa pb ga I J) (hi : i + 6 ≤ L) (hL : L ≤ 384) (hJ : J 0 0 = Int64.ofNat L) (hN : ∀ (pa2 pb2 : Nat) (ga2 : Nat → Nat) (I2 : pm_II) (J2 : pm_JJ), Inv (t + 1) pa2 pb2 ga2 I2 J2 → J2 0 0 = Int64.ofNat L → Px 800 176 m_La_law 1401 (lL i) [] (hp I2 J2 (pm_RT pa2 pb2 ga2)) Q) : Px 800 176 m_La_law 1213 (lL i) [] (hp I J (pm_RT pa pb ga)) Q := by
  obtain ⟨v, pa2, pb2, ga2, I1, J1, I2, J2, hP, hM, hI2, _⟩ := cp_job (u := u) (x1 := I 0 (i + 1)) (x2 := I 0 (i + 2)) (x3 := I 0 (i + 3)) (x4 := I 0 (i + 4)) hu hI
  refine x_l 1214 rfl rfl rfl ?_
  refine la_arg 1 1219 rfl rfl rfl rfl rfl rfl rfl (by omega) hL hJ ?_
  refine la_arg 2 1224 rfl rfl rfl rfl rfl rfl rfl (by omega) hL hJ ?_
  refine la_arg 3 1229 rfl rfl rfl rfl rfl rfl rfl (by omega) hL hJ ?_
  refine la_arg 4 1234 rfl rfl rfl rfl rfl rfl rfl (by omega) hL hJ ?_
  refine x_cv (k := 799) (N' := 176) (b := 16) (As := [.int (I 0 (i + 1)), .int (I 0 (i + 2)), .int (I 0 (i + 3)), .int (I 0 (i + 4))]) (rest := []) rfl at_Ph_job rfl rfl (Nat.le_of_ble_eq_true rfl) (Nat.le_of_ble_eq_true rfl) (Nat.le_refl _) (Nat.le_refl _) rfl (by decide) (by decide) (show 16 < 176 by omega) rfl ?_
  refine x_m ?_ (Px_c0 (hP (fun r h2 => r = some (.int v) ∧ h2 = hp I1 J1 (pm_RT pa2 pb2 ga2)) ⟨rfl, rfl⟩))
  rintro r h2 ⟨⟨rfl, rfl⟩, hc⟩
  have e0 : ∀ j, I1 0 j = I 0 j := fun j => congrFun hc.1 j
  have hJ1 : J1 0 0 = Int64.ofNat L := (congrFun hc.2 0).trans hJ
  refine ⟨rfl, ?_⟩
  refine x_l 1238 rfl rfl rfl ?_
  refine la_arg 1 1243 rfl rfl rfl rfl rfl rfl rfl (by omega) hL hJ1 ?_
  refine la_arg 2 1248 rfl rfl rfl rfl rfl rfl rfl (by omega) hL hJ1 ?_
  refine la_arg 3 1253 rfl rfl rfl rfl rfl rfl rfl (by omega) hL hJ1 ?_
  refine la_arg 4 1258 rfl rfl rfl rfl rfl rfl rfl (by omega) hL hJ1 ?_
  rw [e0 (i + 1), e0 (i + 2), e0 (i + 3), e0 (i + 4)]
  refine x_cv (k := 799) (N' := 176) (b := 120) (As := [.int (I 0 (i + 1)), .int (I 0 (i + 2)), .int (I 0 (i + 3)), .int (I 0 (i + 4))]) (rest := [.int v]) rfl at_Mo_job rfl rfl (Nat.le_of_ble_eq_true rfl) (Nat.le_of_ble_eq_true rfl) (Nat.le_refl _) (Nat.le_refl _) rfl (by decide) (by decide) (show 120 < 176 by omega) rfl ?_
  refine x_m ?_ (Px_c0 (hM (fun r h2 => r = some (.int v) ∧ h2 = hp I2 J2 (pm_RT pa2 pb2 ga2)) ⟨rfl, rfl⟩))
  rintro r h2 ⟨⟨rfl, rfl⟩, hc2⟩
  refine ⟨rfl, ?_⟩
  refine x_b 1264 rfl rfl rfl (fun _ => ?_) (fun z => absurd rfl z)
  exact hN pa2 pb2 ga2 I2 J2 hI2 ((congrFun hc2.2 0).trans hJ1)
theorem la_times {u t pa pb : Nat} {ga : Nat → Nat} (hu : 60000 ≤ u) (hI : Inv t pa pb ga I J) (hi : i + 6 ≤ L) (hL : L ≤ 384) (hJ : J 0 0 = Int64.ofNat L) (hN : ∀ (pa2 pb2 : Nat) (ga2 : Nat → Nat) (I2 : pm_II) (J2 : pm_JJ), Inv (t + 1) pa2 pb2 ga2 I2 J2 → J2 0 0 = Int64.ofNat L → Px 800 176 m_La_law 1401 (lL i) [] (hp I2 J2 (pm_RT pa2 pb2 ga2)) Q) : Px 800 176 m_La_law 1266 (lL i) [] (hp I J (pm_RT pa pb ga)) Q := by
  obtain ⟨v, pa2, pb2, ga2, I1, J1, I2, J2, hP, hM, hI2, _⟩ := cp_times (u := u) (x1 := I 0 (i + 1)) (x2 := I 0 (i + 2)) hu hI
  refine x_l 1267 rfl rfl rfl ?_
  refine la_arg 1 1272 rfl rfl rfl rfl rfl rfl rfl (by omega) hL hJ ?_
  refine la_arg 2 1277 rfl rfl rfl rfl rfl rfl rfl (by omega) hL hJ ?_
  refine x_cv (k := 799) (N' := 176) (b := 16) (As := [.int (I 0 (i + 1)), .int (I 0 (i + 2))]) (rest := []) rfl at_Ph_times rfl rfl (Nat.le_of_ble_eq_true rfl) (Nat.le_of_ble_eq_true rfl) (Nat.le_refl _) (Nat.le_refl _) rfl (by decide) (by decide) (show 16 < 176 by omega) rfl ?_
  refine x_m ?_ (Px_c0 (hP (fun r h2 => r = some (.int v) ∧ h2 = hp I1 J1 (pm_RT pa2 pb2 ga2)) ⟨rfl, rfl⟩))
  rintro r h2 ⟨⟨rfl, rfl⟩, hc⟩
  have e0 : ∀ j, I1 0 j = I 0 j := fun j => congrFun hc.1 j
  have hJ1 : J1 0 0 = Int64.ofNat L := (congrFun hc.2 0).trans hJ
  refine ⟨rfl, ?_⟩
  refine x_l 1281 rfl rfl rfl ?_
  refine la_arg 1 1286 rfl rfl rfl rfl rfl rfl rfl (by omega) hL hJ1 ?_
  refine la_arg 2 1291 rfl rfl rfl rfl rfl rfl rfl (by omega) hL hJ1 ?_
  rw [e0 (i + 1), e0 (i + 2)]
  refine x_cv (k := 799) (N' := 176) (b := 120) (As := [.int (I 0 (i + 1)), .int (I 0 (i + 2))]) (rest := [.int v]) rfl at_Mo_times rfl rfl (Nat.le_of_ble_eq_true rfl) (Nat.le_of_ble_eq_true rfl) (Nat.le_refl _) (Nat.le_refl _) rfl (by decide) (by decide) (show 120 < 176 by omega) rfl ?_
  refine x_m ?_ (Px_c0 (hM (fun r h2 => r = some (.int v) ∧ h2 = hp I2 J2 (pm_RT pa2 pb2 ga2)) ⟨rfl, rfl⟩))
  rintro r h2 ⟨⟨rfl, rfl⟩, hc2⟩
  refine ⟨rfl, ?_⟩
  refine x_b 1297 rfl rfl rfl (fun _ => ?_) (fun z => absurd rfl z)
  exact hN pa2 pb2 ga2 I2 J2 hI2 ((congrFun hc2.2 0).trans hJ1)
theorem la_drop {u t pa pb : Nat} {ga : Nat → Nat} (hu : 60000 ≤ u) (hI : Inv t pa pb ga I J) (hi : i + 6 ≤ L) (hL : L ≤ 384) (hJ : J 0 0 = Int64.ofNat L) (hN : ∀ (pa2 pb2 : Nat) (ga2 : Nat → Nat) (I2 : pm_II) (J2 : pm_JJ), Inv (t + 1) pa2 pb2 ga2 I2 J2 → J2 0 0 = Int64.ofNat L → Px 800 176 m_La_law 1401 (lL i) [] (hp I2 J2 (pm_RT pa2 pb2 ga2)) Q) : Px 800 176 m_La_law 1299 (lL i) [] (hp I J (pm_RT pa pb ga)) Q := by
  obtain ⟨v, pa2, pb2, ga2, I1, J1, I2, J2, hP, hM, hI2, _⟩ := cp_drop (u := u) (x1 := I 0 (i + 1)) hu hI
  refine x_l 1300 rfl rfl rfl ?_
  refine la_arg 1 1305 rfl rfl rfl rfl rfl rfl rfl (by omega) hL hJ ?_
  refine x_cv (k := 799) (N' := 176) (b := 16) (As := [.int (I 0 (i + 1))]) (rest := []) rfl at_Ph_drop rfl rfl (Nat.le_of_ble_eq_true rfl) (Nat.le_of_ble_eq_true rfl) (Nat.le_refl _) (Nat.le_refl _) rfl (by decide) (by decide) (show 16 < 176 by omega) rfl ?_
  refine x_m ?_ (Px_c0 (hP (fun r h2 => r = some (.int v) ∧ h2 = hp I1 J1 (pm_RT pa2 pb2 ga2)) ⟨rfl, rfl⟩))
  rintro r h2 ⟨⟨rfl, rfl⟩, hc⟩
  have e0 : ∀ j, I1 0 j = I 0 j := fun j => congrFun hc.1 j
  have hJ1 : J1 0 0 = Int64.ofNat L := (congrFun hc.2 0).trans hJ
  refine ⟨rfl, ?_⟩
  refine x_l 1309 rfl rfl rfl ?_
  refine la_arg 1 1314 rfl rfl rfl rfl rfl rfl rfl (by omega) hL hJ1 ?_
  rw [e0 (i + 1)]
  refine x_cv (k := 799) (N' := 176) (b := 120) (As := [.int (I 0 (i + 1))]) (rest := [.int v]) rfl at_Mo_drop rfl rfl (Nat.le_of_ble_eq_true rfl) (Nat.le_of_ble_eq_true rfl) (Nat.le_refl _) (Nat.le_refl _) rfl (by decide) (by decide) (show 120 < 176 by omega) rfl ?_
  refine x_m ?_ (Px_c0 (hM (fun r h2 => r = some (.int v) ∧ h2 = hp I2 J2 (pm_RT pa2 pb2 ga2)) ⟨rfl, rfl⟩))
  rintro r h2 ⟨⟨rfl, rfl⟩, hc2⟩
  refine ⟨rfl, ?_⟩
  refine x_b 1320 rfl rfl rfl (fun _ => ?_) (fun z => absurd rfl z)
  exact hN pa2 pb2 ga2 I2 J2 hI2 ((congrFun hc2.2 0).trans hJ1)
theorem la_order {u t pa pb : Nat} {ga : Nat → Nat} (hu : 60000 ≤ u) (hI : Inv t pa pb ga I J) (hi : i + 6 ≤ L) (hL : L ≤ 384) (hJ : J 0 0 = Int64.ofNat L) (hN : ∀ (pa2 pb2 : Nat) (ga2 : Nat → Nat) (I2 : pm_II) (J2 : pm_JJ), Inv (t + 1) pa2 pb2 ga2 I2 J2 → J2 0 0 = Int64.ofNat L → Px 800 176 m_La_law 1401 (lL i) [] (hp I2 J2 (pm_RT pa2 pb2 ga2)) Q) : Px 800 176 m_La_law 1322 (lL i) [] (hp I J (pm_RT pa pb ga)) Q := by
  obtain ⟨v, pa2, pb2, ga2, I1, J1, I2, J2, hP, hM, hI2, _⟩ := cp_order (u := u) (x1 := I 0 (i + 1)) hu hI
  refine x_l 1323 rfl rfl rfl ?_
  refine la_arg 1 1328 rfl rfl rfl rfl rfl rfl rfl (by omega) hL hJ ?_
  refine x_cv (k := 799) (N' := 176) (b := 16) (As := [.int (I 0 (i + 1))]) (rest := []) rfl at_Ph_order rfl rfl (Nat.le_of_ble_eq_true rfl) (Nat.le_of_ble_eq_true rfl) (Nat.le_refl _) (Nat.le_refl _) rfl (by decide) (by decide) (show 16 < 176 by omega) rfl ?_
  refine x_m ?_ (Px_c0 (hP (fun r h2 => r = some (.int v) ∧ h2 = hp I1 J1 (pm_RT pa2 pb2 ga2)) ⟨rfl, rfl⟩))
  rintro r h2 ⟨⟨rfl, rfl⟩, hc⟩
  have e0 : ∀ j, I1 0 j = I 0 j := fun j => congrFun hc.1 j
  have hJ1 : J1 0 0 = Int64.ofNat L := (congrFun hc.2 0).trans hJ
  refine ⟨rfl, ?_⟩
  refine x_l 1332 rfl rfl rfl ?_
  refine la_arg 1 1337 rfl rfl rfl rfl rfl rfl rfl (by omega) hL hJ1 ?_
  rw [e0 (i + 1)]
  refine x_cv (k := 799) (N' := 176) (b := 120) (As := [.int (I 0 (i + 1))]) (rest := [.int v]) rfl at_Mo_order rfl rfl (Nat.le_of_ble_eq_true rfl) (Nat.le_of_ble_eq_true rfl) (Nat.le_refl _) (Nat.le_refl _) rfl (by decide) (by decide) (show 120 < 176 by omega) rfl ?_
  refine x_m ?_ (Px_c0 (hM (fun r h2 => r = some (.int v) ∧ h2 = hp I2 J2 (pm_RT pa2 pb2 ga2)) ⟨rfl, rfl⟩))
  rintro r h2 ⟨⟨rfl, rfl⟩, hc2⟩
  refine ⟨rfl, ?_⟩
  refine x_b 1343 rfl rfl rfl (fun _ => ?_) (fun z => absurd rfl z)
  exact hN pa2 pb2 ga2 I2 J2 hI2 ((congrFun hc2.2 0).trans hJ1)
theorem la_when {u t pa pb : Nat} {ga : Nat → Nat} (hu : 60000 ≤ u) (hI : Inv t pa pb ga I J) (hi : i + 6 ≤ L) (hL : L ≤ 384) (hJ : J 0 0 = Int64.ofNat L) (hN : ∀ (pa2 pb2 : Nat) (ga2 : Nat → Nat) (I2 : pm_II) (J2 : pm_JJ), Inv (t + 1) pa2 pb2 ga2 I2 J2 → J2 0 0 = Int64.ofNat L → Px 800 176 m_La_law 1401 (lL i) [] (hp I2 J2 (pm_RT pa2 pb2 ga2)) Q) : Px 800 176 m_La_law 1345 (lL i) [] (hp I J (pm_RT pa pb ga)) Q := by
  obtain ⟨v, pa2, pb2, ga2, I1, J1, I2, J2, hP, hM, hI2, _⟩ := cp_when (u := u) (x1 := I 0 (i + 1)) (x2 := I 0 (i + 2)) hu hI
  refine x_l 1346 rfl rfl rfl ?_
  refine la_arg 1 1351 rfl rfl rfl rfl rfl rfl rfl (by omega) hL hJ ?_
  refine la_arg 2 1356 rfl rfl rfl rfl rfl rfl rfl (by omega) hL hJ ?_
  refine x_cv (k := 799) (N' := 176) (b := 16) (As := [.int (I 0 (i + 1)), .int (I 0 (i + 2))]) (rest := []) rfl at_Ph_when rfl rfl (Nat.le_of_ble_eq_true rfl) (Nat.le_of_ble_eq_true rfl) (Nat.le_refl _) (Nat.le_refl _) rfl (by decide) (by decide) (show 16 < 176 by omega) rfl ?_
  refine x_m ?_ (Px_c0 (hP (fun r h2 => r = some (.int v) ∧ h2 = hp I1 J1 (pm_RT pa2 pb2 ga2)) ⟨rfl, rfl⟩))
  rintro r h2 ⟨⟨rfl, rfl⟩, hc⟩
  have e0 : ∀ j, I1 0 j = I 0 j := fun j => congrFun hc.1 j
  have hJ1 : J1 0 0 = Int64.ofNat L := (congrFun hc.2 0).trans hJ
  refine ⟨rfl, ?_⟩
  refine x_l 1360 rfl rfl rfl ?_
  refine la_arg 1 1365 rfl rfl rfl rfl rfl rfl rfl (by omega) hL hJ1 ?_
  refine la_arg 2 1370 rfl rfl rfl rfl rfl rfl rfl (by omega) hL hJ1 ?_
  rw [e0 (i + 1), e0 (i + 2)]
  refine x_cv (k := 799) (N' := 176) (b := 120) (As := [.int (I 0 (i + 1)), .int (I 0 (i + 2))]) (rest := [.int v]) rfl at_Mo_when rfl rfl (Nat.le_of_ble_eq_true rfl) (Nat.le_of_ble_eq_true rfl) (Nat.le_refl _) (Nat.le_refl _) rfl (by decide) (by decide) (show 120 < 176 by omega) rfl ?_
  refine x_m ?_ (Px_c0 (hM (fun r h2 => r = some (.int v) ∧ h2 = hp I2 J2 (pm_RT pa2 pb2 ga2)) ⟨rfl, rfl⟩))
  rintro r h2 ⟨⟨rfl, rfl⟩, hc2⟩
  refine ⟨rfl, ?_⟩
  refine x_b 1376 rfl rfl rfl (fun _ => ?_) (fun z => absurd rfl z)
  exact hN pa2 pb2 ga2 I2 J2 hI2 ((congrFun hc2.2 0).trans hJ1)
theorem la_count {u t pa pb : Nat} {ga : Nat → Nat} (hu : 60000 ≤ u) (hI : Inv t pa pb ga I J) (hi : i + 6 ≤ L) (hL : L ≤ 384) (hJ : J 0 0 = Int64.ofNat L) (hN : ∀ (pa2 pb2 : Nat) (ga2 : Nat → Nat) (I2 : pm_II) (J2 : pm_JJ), Inv (t + 1) pa2 pb2 ga2 I2 J2 → J2 0 0 = Int64.ofNat L → Px 800 176 m_La_law 1401 (lL i) [] (hp I2 J2 (pm_RT pa2 pb2 ga2)) Q) : Px 800 176 m_La_law 1378 (lL i) [] (hp I J (pm_RT pa pb ga)) Q := by
  obtain ⟨v, pa2, pb2, ga2, I1, J1, I2, J2, hP, hM, hI2, _⟩ := cp_count (u := u) (x1 := I 0 (i + 1)) hu hI
  refine x_l 1379 rfl rfl rfl ?_
  refine la_arg 1 1384 rfl rfl rfl rfl rfl rfl rfl (by omega) hL hJ ?_
  refine x_cv (k := 799) (N' := 176) (b := 16) (As := [.int (I 0 (i + 1))]) (rest := []) rfl at_Ph_count rfl rfl (Nat.le_of_ble_eq_true rfl) (Nat.le_of_ble_eq_true rfl) (Nat.le_refl _) (Nat.le_refl _) rfl (by decide) (by decide) (show 16 < 176 by omega) rfl ?_
  refine x_m ?_ (Px_c0 (hP (fun r h2 => r = some (.int v) ∧ h2 = hp I1 J1 (pm_RT pa2 pb2 ga2)) ⟨rfl, rfl⟩))
  rintro r h2 ⟨⟨rfl, rfl⟩, hc⟩
  have e0 : ∀ j, I1 0 j = I 0 j := fun j => congrFun hc.1 j
  have hJ1 : J1 0 0 = Int64.ofNat L := (congrFun hc.2 0).trans hJ
  refine ⟨rfl, ?_⟩
  refine x_l 1388 rfl rfl rfl ?_
  refine la_arg 1 1393 rfl rfl rfl rfl rfl rfl rfl (by omega) hL hJ1 ?_
  rw [e0 (i + 1)]
  refine x_cv (k := 799) (N' := 176) (b := 120) (As := [.int (I 0 (i + 1))]) (rest := [.int v]) rfl at_Mo_count rfl rfl (Nat.le_of_ble_eq_true rfl) (Nat.le_of_ble_eq_true rfl) (Nat.le_refl _) (Nat.le_refl _) rfl (by decide) (by decide) (show 120 < 176 by omega) rfl ?_
  refine x_m ?_ (Px_c0 (hM (fun r h2 => r = some (.int v) ∧ h2 = hp I2 J2 (pm_RT pa2 pb2 ga2)) ⟨rfl, rfl⟩))
  rintro r h2 ⟨⟨rfl, rfl⟩, hc2⟩
  refine ⟨rfl, ?_⟩
  refine x_b 1399 rfl rfl rfl (fun _ => ?_) (fun z => absurd rfl z)
  exact hN pa2 pb2 ga2 I2 J2 hI2 ((congrFun hc2.2 0).trans hJ1)
end Law
