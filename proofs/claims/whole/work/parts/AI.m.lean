/-! ===== the law's loop, whole ===== -/
section LawL
variable {L u : Nat}
theorem law_1401 {i : Nat} {I : pm_II} {J : pm_JJ} {R : pm_RR} {Q : Option Value → pm_H → Prop} (h : Px 800 176 m_La_law 18 (lL (i + 6)) [] (hp I J R) Q) : Px 800 176 m_La_law 1401 (lL i) [] (hp I J R) Q := by
  refine x_t 1404 rfl rfl rfl ?_
  refine x_g rfl ?_
  have e : nI i + Int32.ofInt 6 = nI (i + 6) := by rw [show Int32.ofInt 6 = nI 6 from rfl, nI_add]
  show Px 800 176 m_La_law 18 [.ref 0, .ref 16, .ref 120, .int (nI i + Int32.ofInt 6)] [] (hp I J R) Q
  rw [e]
  exact h
theorem law_head {i : Nat} {I : pm_II} {J : pm_JJ} {R : pm_RR} {Q : Option Value → pm_H → Prop} (hi : i ≤ 400) (hL : L ≤ 384) (hJ : J 0 0 = Int64.ofNat L) (h1 : L < i + 6 → Q (some (.int 1)) (hp I J R)) (h2 : i + 6 ≤ L → Px 800 176 m_La_law 33 (lL i) [.int (I 0 i &&& 63)] (hp I J R) Q) : Px 800 176 m_La_law 18 (lL i) [] (hp I J R) Q := by
  refine x_l 19 rfl rfl rfl ?_
  refine x_l 20 rfl rfl rfl ?_
  refine x_sl 21 rfl rfl ?_
  have eL : ((hp I J R).2.2.1 0 0).toInt32 = nI L := by
    show (J 0 0).toInt32 = nI L
    rw [hJ]
    have e1 : (lN L).toInt32 = nI L := lN_i L
    exact e1
  rw [eL]
  refine x_s 23 rfl rfl rfl ?_
  refine x_s 24 rfl rfl rfl ?_
  have hlt : (nI L - 6 < nI i) ↔ L < i + 6 := by
    rw [Int32.lt_iff_toInt_lt, show (6 : Int32) = nI 6 from rfl, pk_sub_toInt (by omega) (by omega), nI_toInt (by omega)]
    omega
  refine x_b 27 rfl rfl rfl (fun z => ?_) (fun z => ?_)
  · refine x_s 1408 rfl rfl rfl ?_
    exact x_ri rfl (Or.inr ⟨rfl, Or.inr rfl⟩) (h1 (hlt.mp z))
  · have hle : i + 6 ≤ L := by
      apply Classical.byContradiction
      intro q
      exact z (hlt.mpr (by omega))
    refine x_l 28 rfl rfl rfl ?_
    refine x_l 29 rfl rfl rfl ?_
    refine x_sc 30 rfl ?_ rfl ?_
    · rw [J0_len hL hJ]
      exact vq_in (vqT (show i < L by omega) (by omega))
    · show Px 800 176 m_La_law 30 (lL i) [.int (I 0 ((nI i).toNatClampNeg))] (hp I J R) Q
      rw [nI_clamp (by omega)]
      refine x_s 32 rfl rfl rfl ?_
      refine x_s 33 rfl rfl rfl ?_
      exact h2 hle
theorem law_loop (hu : 60000 ≤ u) (hL : L ≤ 384) : ∀ (d t i pa pb : Nat) (ga : Nat → Nat) (I : pm_II) (J : pm_JJ), L ≤ i + 6 * d → t + d ≤ 900 → i ≤ 400 → Inv t pa pb ga I J → J 0 0 = Int64.ofNat L → Px 800 176 m_La_law 18 (lL i) [] (hp I J (pm_RT pa pb ga)) (fun r h => r = some (.int 1) ∧ h.1 = 176) := by
  intro d
  induction d with
  | zero =>
    intro t i pa pb ga I J h1 h2 h3 hI hJ
    exact law_head h3 hL hJ (fun _ => ⟨rfl, rfl⟩) (fun z => absurd z (by omega))
  | succ d ih =>
    intro t i pa pb ga I J h1 h2 h3 hI hJ
    refine law_head h3 hL hJ (fun _ => ⟨rfl, rfl⟩) (fun hle => ?_)
    have hN : ∀ (t2 pa2 pb2 : Nat) (ga2 : Nat → Nat) (I2 : pm_II) (J2 : pm_JJ), t2 = t + 1 → Inv t2 pa2 pb2 ga2 I2 J2 → J2 0 0 = Int64.ofNat L → Px 800 176 m_La_law 1401 (lL i) [] (hp I2 J2 (pm_RT pa2 pb2 ga2)) (fun r h => r = some (.int 1) ∧ h.1 = 176) := fun t2 pa2 pb2 ga2 I2 J2 e hI2 hJ2 => law_1401 (ih t2 (i + 6) pa2 pb2 ga2 I2 J2 (by omega) (by omega) (by omega) hI2 hJ2)
    refine z_sw 38 (dt := 1401) rfl (by decide) (by omega) (fun c hc he => ?_) (fun _ => hN (t + 1) pa pb ga I J rfl hI.t1 hJ)
    match c, hc with
    | 0, _ => exact ⟨171, 204, rfl, rfl, la_feed (u := u) hu hI hle hL hJ (fun pa2 pb2 ga2 I2 J2 a b => hN (t + 1) pa2 pb2 ga2 I2 J2 rfl a b)⟩
    | 1, _ => exact ⟨234, 267, rfl, rfl, la_end (u := u) hu hI hle hL hJ (fun pa2 pb2 ga2 I2 J2 a b => hN (t + 1) pa2 pb2 ga2 I2 J2 rfl a b)⟩
    | 2, _ => exact ⟨257, 290, rfl, rfl, la_cut (u := u) hu hI hle hL hJ (fun pa2 pb2 ga2 I2 J2 a b => hN (t + 1) pa2 pb2 ga2 I2 J2 rfl a b)⟩
    | 3, _ => exact ⟨270, 303, rfl, rfl, la_pattern (u := u) hu hI hle hL hJ (fun pa2 pb2 ga2 I2 J2 a b => hN (t + 1) pa2 pb2 ga2 I2 J2 rfl a b)⟩
    | 4, _ => exact ⟨303, 336, rfl, rfl, la_fold (u := u) hu hI hle hL hJ (fun pa2 pb2 ga2 I2 J2 a b => hN (t + 1) pa2 pb2 ga2 I2 J2 rfl a b)⟩
    | 5, _ => exact ⟨316, 349, rfl, rfl, la_book (u := u) hu hI hle hL hJ (fun pa2 pb2 ga2 I2 J2 a b => hN (t + 1) pa2 pb2 ga2 I2 J2 rfl a b)⟩
    | 6, _ => exact ⟨359, 392, rfl, rfl, la_page (u := u) hu hI hle hL hJ (fun pa2 pb2 ga2 I2 J2 a b => hN (t + 1) pa2 pb2 ga2 I2 J2 rfl a b)⟩
    | 7, _ => exact ⟨412, 445, rfl, rfl, la_where (u := u) hu hI hle hL hJ (fun pa2 pb2 ga2 I2 J2 a b => hN (t + 1) pa2 pb2 ga2 I2 J2 rfl a b)⟩
    | 8, _ => exact ⟨445, 478, rfl, rfl, la_draw (u := u) hu hI hle hL hJ (fun pa2 pb2 ga2 I2 J2 a b => hN (t + 1) pa2 pb2 ga2 I2 J2 rfl a b)⟩
    | 9, _ => exact ⟨468, 501, rfl, rfl, la_point (u := u) hu hI hle hL hJ (fun pa2 pb2 ga2 I2 J2 a b => hN (t + 1) pa2 pb2 ga2 I2 J2 rfl a b)⟩
    | 10, _ => exact ⟨521, 554, rfl, rfl, la_mount (u := u) hu hI hle hL hJ (fun pa2 pb2 ga2 I2 J2 a b => hN (t + 1) pa2 pb2 ga2 I2 J2 rfl a b)⟩
    | 11, _ => exact ⟨554, 587, rfl, rfl, la_key (u := u) hu hI hle hL hJ (fun pa2 pb2 ga2 I2 J2 a b => hN (t + 1) pa2 pb2 ga2 I2 J2 rfl a b)⟩
    | 12, _ => exact ⟨587, 620, rfl, rfl, la_aim (u := u) hu hI hle hL hJ (fun pa2 pb2 ga2 I2 J2 a b => hN (t + 1) pa2 pb2 ga2 I2 J2 rfl a b)⟩
    | 13, _ => exact ⟨630, 663, rfl, rfl, la_settled (u := u) hu hI hle hL hJ (fun pa2 pb2 ga2 I2 J2 a b => hN (t + 1) pa2 pb2 ga2 I2 J2 rfl a b)⟩
    | 14, _ => exact ⟨653, 686, rfl, rfl, la_print (u := u) hu hI hle hL hJ (fun pa2 pb2 ga2 I2 J2 a b => hN (t + 1) pa2 pb2 ga2 I2 J2 rfl a b)⟩
    | 15, _ => exact ⟨676, 709, rfl, rfl, la_good (u := u) hu hI hle hL hJ (fun pa2 pb2 ga2 I2 J2 a b => hN (t + 1) pa2 pb2 ga2 I2 J2 rfl a b)⟩
    | 16, _ => exact ⟨699, 732, rfl, rfl, la_zone (u := u) hu hI hle hL hJ (fun pa2 pb2 ga2 I2 J2 a b => hN (t + 1) pa2 pb2 ga2 I2 J2 rfl a b)⟩
    | 17, _ => exact ⟨732, 765, rfl, rfl, la_number (u := u) hu hI hle hL hJ (fun pa2 pb2 ga2 I2 J2 a b => hN (t + 1) pa2 pb2 ga2 I2 J2 rfl a b)⟩
    | 18, _ => exact ⟨755, 788, rfl, rfl, la_sorts (u := u) hu hI hle hL hJ (fun pa2 pb2 ga2 I2 J2 a b => hN (t + 1) pa2 pb2 ga2 I2 J2 rfl a b)⟩
    | 19, _ => exact ⟨798, 831, rfl, rfl, la_set (u := u) hu hI hle hL hJ (fun pa2 pb2 ga2 I2 J2 a b => hN (t + 1) pa2 pb2 ga2 I2 J2 rfl a b)⟩
    | 20, _ => exact ⟨821, 854, rfl, rfl, la_distribute (u := u) hu hI hle hL hJ (fun pa2 pb2 ga2 I2 J2 a b => hN (t + 1) pa2 pb2 ga2 I2 J2 rfl a b)⟩
    | 21, _ => exact ⟨844, 877, rfl, rfl, la_line (u := u) hu hI hle hL hJ (fun pa2 pb2 ga2 I2 J2 a b => hN (t + 1) pa2 pb2 ga2 I2 J2 rfl a b)⟩
    | 22, _ => exact ⟨877, 910, rfl, rfl, la_strip (u := u) hu hI hle hL hJ (fun pa2 pb2 ga2 I2 J2 a b => hN (t + 1) pa2 pb2 ga2 I2 J2 rfl a b)⟩
    | 23, _ => exact ⟨910, 943, rfl, rfl, la_left (u := u) hu hI hle hL hJ (fun pa2 pb2 ga2 I2 J2 a b => hN (t + 1) pa2 pb2 ga2 I2 J2 rfl a b)⟩
    | 24, _ => exact ⟨933, 966, rfl, rfl, la_pile (u := u) hu hI hle hL hJ (fun pa2 pb2 ga2 I2 J2 a b => hN (t + 1) pa2 pb2 ga2 I2 J2 rfl a b)⟩
    | 25, _ => exact ⟨966, 999, rfl, rfl, la_piece (u := u) hu hI hle hL hJ (fun pa2 pb2 ga2 I2 J2 a b => hN (t + 1) pa2 pb2 ga2 I2 J2 rfl a b)⟩
    | 26, _ => exact ⟨999, 1032, rfl, rfl, la_on (u := u) hu hI hle hL hJ (fun pa2 pb2 ga2 I2 J2 a b => hN (t + 1) pa2 pb2 ga2 I2 J2 rfl a b)⟩
    | 27, _ => exact ⟨1032, 1065, rfl, rfl, la_gather (u := u) hu hI hle hL hJ (fun pa2 pb2 ga2 I2 J2 a b => hN (t + 1) pa2 pb2 ga2 I2 J2 rfl a b)⟩
    | 28, _ => exact ⟨1045, 1078, rfl, rfl, la_letters (u := u) hu (by omega) hI hle hL hJ (fun pa2 pb2 ga2 I2 J2 a b => hN (t + 1) pa2 pb2 ga2 I2 J2 rfl a b)⟩
    | 29, _ => exact ⟨1058, 1091, rfl, rfl, la_bundles (u := u) hu hI hle hL hJ (fun pa2 pb2 ga2 I2 J2 a b => hN (t + 1) pa2 pb2 ga2 I2 J2 rfl a b)⟩
    | 30, _ => exact ⟨1091, 1124, rfl, rfl, la_letter (u := u) hu hI hle hL hJ (fun pa2 pb2 ga2 I2 J2 a b => hN (t + 1) pa2 pb2 ga2 I2 J2 rfl a b)⟩
    | 31, _ => exact ⟨1124, 1157, rfl, rfl, la_bundle (u := u) hu hI hle hL hJ (fun pa2 pb2 ga2 I2 J2 a b => hN (t + 1) pa2 pb2 ga2 I2 J2 rfl a b)⟩
    | 32, _ => exact ⟨1157, 1190, rfl, rfl, la_strike (u := u) hu hI hle hL hJ (fun pa2 pb2 ga2 I2 J2 a b => hN (t + 1) pa2 pb2 ga2 I2 J2 rfl a b)⟩
    | 33, _ => exact ⟨1180, 1213, rfl, rfl, la_job (u := u) hu hI hle hL hJ (fun pa2 pb2 ga2 I2 J2 a b => hN (t + 1) pa2 pb2 ga2 I2 J2 rfl a b)⟩
    | 34, _ => exact ⟨1233, 1266, rfl, rfl, la_times (u := u) hu hI hle hL hJ (fun pa2 pb2 ga2 I2 J2 a b => hN (t + 1) pa2 pb2 ga2 I2 J2 rfl a b)⟩
    | 35, _ => exact ⟨1266, 1299, rfl, rfl, la_drop (u := u) hu hI hle hL hJ (fun pa2 pb2 ga2 I2 J2 a b => hN (t + 1) pa2 pb2 ga2 I2 J2 rfl a b)⟩
    | 36, _ => exact ⟨1289, 1322, rfl, rfl, la_order (u := u) hu hI hle hL hJ (fun pa2 pb2 ga2 I2 J2 a b => hN (t + 1) pa2 pb2 ga2 I2 J2 rfl a b)⟩
    | 37, _ => exact ⟨1312, 1345, rfl, rfl, la_when (u := u) hu hI hle hL hJ (fun pa2 pb2 ga2 I2 J2 a b => hN (t + 1) pa2 pb2 ga2 I2 J2 rfl a b)⟩
    | 38, _ => exact ⟨1345, 1378, rfl, rfl, la_count (u := u) hu hI hle hL hJ (fun pa2 pb2 ga2 I2 J2 a b => hN (t + 1) pa2 pb2 ga2 I2 J2 rfl a b)⟩
    | c + 39, hc => exact absurd hc (by omega)
end LawL
