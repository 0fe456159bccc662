/-! ===== the calls, class and model ===== -/
def CP (MP MM : pm_M) (As : List Value) (t pa pb : Nat) (ga : Nat → Nat) (I : pm_II) (J : pm_JJ) : Prop := ∃ v pa2 pb2 ga2 I1 J1 I2 J2, (∀ Q : Option Value → pm_H → Prop, Q (some (.int v)) (hp I1 J1 (pm_RT pa2 pb2 ga2)) → Px 799 176 MP 0 (pm_ent (pm_ml MP) (.ref 16 :: As)) [] (hp I J (pm_RT pa pb ga)) Q) ∧ (∀ Q : Option Value → pm_H → Prop, Q (some (.int v)) (hp I2 J2 (pm_RT pa2 pb2 ga2)) → Px 799 176 MM 0 (pm_ent (pm_ml MM) (.ref 120 :: As)) [] (hp I1 J1 (pm_RT pa2 pb2 ga2)) Q) ∧ Inv (t + 1) pa2 pb2 ga2 I2 J2 ∧ J2 0 0 = J 0 0
section Calls
variable {u t pa pb : Nat} {ga : Nat → Nat} {I : pm_II} {J : pm_JJ} {x1 x2 x3 x4 x5 : Int32}
theorem own00 : own 0 0 = 9 := rfl
theorem J00 {s : Nat} {J2 : pm_JJ} (f : Fr s J J2) (hs : 9 ≠ s) : J2 0 0 = J 0 0 := f 0 0 (by rw [own00]; omega) (by rw [own00]; exact hs)
theorem cp_feed (hu : 60000 ≤ u) (hI : Inv t pa pb ga I J) : CP m_Ph_feed m_Mo_feed [.int x1, .int x2, .int x3, .int x4, .int x5] t pa pb ga I J := by
  obtain ⟨v, I1, I2, a, b, c, d⟩ := st_feed (u := u) (J := J) (x1 := x1) (x2 := x2) (x3 := x3) (x4 := x4) (x5 := x5) (by omega) hI.1.1
  exact ⟨v, pa, pb, ga, I1, J, I2, J, fun Q hQ => fx_Ph_feed (u := u) (by omega) a hQ, fun Q hQ => fx_Mo_feed (u := u) (by omega) b hQ, (hI.s0 c d).t1, rfl⟩
theorem cp_end (hu : 60000 ≤ u) (hI : Inv t pa pb ga I J) : CP m_Ph_end m_Mo_end [.int x1] t pa pb ga I J := by
  obtain ⟨v, I1, I2, a, b, c, d⟩ := st_end (u := u) (J := J) (x1 := x1) hI.1.1
  exact ⟨v, pa, pb, ga, I1, J, I2, J, fun Q hQ => fx_Ph_end (u := u) (by omega) a hQ, fun Q hQ => fx_Mo_end (u := u) (by omega) b hQ, (hI.s0 c d).t1, rfl⟩
theorem cp_gather (hu : 60000 ≤ u) (hI : Inv t pa pb ga I J) : CP m_Ph_gather m_Mo_gather [] t pa pb ga I J := by
  obtain ⟨R, C, s, wy, cal, lf, sk, tn, tb, q⟩ := hI.1.2.2.1
  obtain ⟨v, I1, I2, a, b, c, d⟩ := st_gather (u := u) (J := J)  (s := s) (by omega) hI.1.1 q.1.2.2.2.2.2.1 q.2.1.2.2.1 q.2.2.1.2.2.1
  exact ⟨v, pa, pb, ga, I1, J, I2, J, fun Q hQ => fx_Ph_gather (u := u) (by omega) a hQ, fun Q hQ => fx_Mo_gather (u := u) (by omega) b hQ, (hI.s0 c d).t1, rfl⟩
theorem cp_cut (hu : 60000 ≤ u) (hI : Inv t pa pb ga I J) : CP m_Ph_cut m_Mo_cut [] t pa pb ga I J := by
  obtain ⟨v, I1, I2, a, b, c, d, e⟩ := st_cut (u := u) (J := J)  (by omega) hI.1.1 hI.1.2.1
  exact ⟨v, pa, pb, ga, I1, J, I2, J, fun Q hQ => fx_Ph_cut (u := u) (by omega) a hQ, fun Q hQ => fx_Mo_cut (u := u) (by omega) b hQ, (hI.s1 c d e).t1, rfl⟩
theorem cp_fold (hu : 60000 ≤ u) (hI : Inv t pa pb ga I J) : CP m_Ph_fold m_Mo_fold [] t pa pb ga I J := by
  obtain ⟨v, I1, I2, a, b, c, d, e⟩ := st_fold (u := u) (J := J)  (by omega) hI.1.1 hI.1.2.2.1
  exact ⟨v, pa, pb, ga, I1, J, I2, J, fun Q hQ => fx_Ph_fold (u := u) (by omega) a hQ, fun Q hQ => fx_Mo_fold (u := u) (by omega) b hQ, (hI.s2 c d e).t1, rfl⟩
theorem cp_draw (hu : 60000 ≤ u) (hI : Inv t pa pb ga I J) : CP m_Ph_draw m_Mo_draw [.int x1] t pa pb ga I J := by
  obtain ⟨v, I1, I2, a, b, c, d, e⟩ := st_draw (u := u) (J := J) (x := x1) (by omega) hI.1.1 hI.1.2.2.2
  exact ⟨v, pa, pb, ga, I1, J, I2, J, fun Q hQ => fx_Ph_draw (u := u) (by omega) a hQ, fun Q hQ => fx_Mo_draw (u := u) (by omega) b hQ, (hI.s3 c d e).t1, rfl⟩
theorem cp_set (hu : 60000 ≤ u) (hI : Inv t pa pb ga I J) : CP m_Ph_set m_Mo_set [.int x1] t pa pb ga I J := by
  obtain ⟨v, I1, I2, a, b, c, d, e⟩ := st_set (u := u) (J := J) (x := x1) (ga := ga) (pa := pa) (pb := pb) (by omega) hI.1.1 hI.2.1.2.1
  exact ⟨v, pa, pb, ga, I1, J, I2, J, fun Q hQ => fx_Ph_set (u := u) (by omega) hI.2.2.2.1 hI.2.2.2.2.1 hI.2.1.2.1.1.1 a hQ, fun Q hQ => fx_Mo_set (u := u) (by omega) b hQ, (hI.s5 c d e).t1, rfl⟩
theorem cp_count (hu : 60000 ≤ u) (hI : Inv t pa pb ga I J) : CP m_Ph_count m_Mo_count [.int x1] t pa pb ga I J := by
  obtain ⟨v, I1, I2, a, b, c⟩ := st_count (u := u) (J := J) (x := x1) hu hI
  exact ⟨v, pa, pb, ga, I1, J, I2, J, fun Q hQ => fx_Ph_count (u := u) (by omega) hI.2.2.2.1 hI.2.2.2.2.1 hI.2.1.2.1.1.1 a hQ, fun Q hQ => fx_Mo_count (u := u) (by omega) b hQ, c.t1, rfl⟩
theorem cp_pattern (hu : 60000 ≤ u) (hI : Inv t pa pb ga I J) : CP m_Ph_pattern m_Mo_pattern [.int x1, .int x2] t pa pb ga I J := by
  obtain ⟨v, a, b⟩ := st_pattern (u := u) (J := J) (x := x1) (y := x2) (by omega) hI.1.2.1
  have a2 : F_Ph_pattern u x1 x2 I J = some (v, I, J) := by
    unfold F_Ph_pattern
    rw [a, bd_s]
  exact ⟨v, pa, pb, ga, I, J, I, J, fun Q hQ => fx_Ph_pattern (u := u) (by omega) a2 hQ, fun Q hQ => fx_Mo_pattern (u := u) (by omega) b hQ, hI.t1, rfl⟩
theorem cp_page (hu : 60000 ≤ u) (hI : Inv t pa pb ga I J) : CP m_Ph_page m_Mo_page [.int x1, .int x2, .int x3, .int x4] t pa pb ga I J := by
  obtain ⟨v, a, b⟩ := st_page (u := u) (J := J) (x := x1) (y := x2) (z := x3) (w := x4) hI.1.2.2.1
  exact ⟨v, pa, pb, ga, I, J, I, J, fun Q hQ => fx_Ph_page (u := u) (by omega) a hQ, fun Q hQ => fx_Mo_page (u := u) (by omega) b hQ, hI.t1, rfl⟩
theorem cp_where (hu : 60000 ≤ u) (hI : Inv t pa pb ga I J) : CP m_Ph_where m_Mo_where [.int x1, .int x2] t pa pb ga I J := by
  obtain ⟨v, a, b⟩ := st_where (u := u) (J := J) (x := x1) (y := x2) (by omega) hI.1.2.2.1
  have a2 : F_Ph_where u x1 x2 I J = some (v, I, J) := by
    unfold F_Ph_where
    rw [a, bd_s]
  exact ⟨v, pa, pb, ga, I, J, I, J, fun Q hQ => fx_Ph_where (u := u) (by omega) a2 hQ, fun Q hQ => fx_Mo_where (u := u) (by omega) b hQ, hI.t1, rfl⟩
theorem cp_point (hu : 60000 ≤ u) (hI : Inv t pa pb ga I J) : CP m_Ph_point m_Mo_point [.int x1, .int x2, .int x3, .int x4] t pa pb ga I J := by
  obtain ⟨v, a, b⟩ := st_point (u := u) (J := J) (x := x1) (y := x2) (z := x3) (w := x4) hI.1.2.2.1 hI.1.2.2.2
  have a2 : F_Ph_point u x1 x2 x3 x4 I J = some (v, I, J) := by
    unfold F_Ph_point
    rw [a, bd_s]
  exact ⟨v, pa, pb, ga, I, J, I, J, fun Q hQ => fx_Ph_point (u := u) (by omega) a2 hQ, fun Q hQ => fx_Mo_point (u := u) (by omega) b hQ, hI.t1, rfl⟩
theorem cp_zone (hu : 60000 ≤ u) (hI : Inv t pa pb ga I J) : CP m_Ph_zone m_Mo_zone [.int x1, .int x2] t pa pb ga I J := by
  obtain ⟨v, a, b⟩ := st_zone (u := u) (J := J) (x := x1) (y := x2) hI.2.1.1
  have a2 : F_Ph_zone u x1 x2 I J = some (v, I, J) := by
    unfold F_Ph_zone
    rw [a, bd_s]
  exact ⟨v, pa, pb, ga, I, J, I, J, fun Q hQ => fx_Ph_zone (u := u) (by omega) a2 hQ, fun Q hQ => fx_Mo_zone (u := u) (by omega) b hQ, hI.t1, rfl⟩
theorem cp_number (hu : 60000 ≤ u) (hI : Inv t pa pb ga I J) : CP m_Ph_number m_Mo_number [.int x1] t pa pb ga I J := by
  obtain ⟨v, a, b⟩ := st_number (u := u) (J := J) (x := x1) (by omega) hI.2.1.1
  have a2 : F_Ph_number u x1 I J = some (v, I, J) := by
    unfold F_Ph_number
    rw [a, bd_s]
  exact ⟨v, pa, pb, ga, I, J, I, J, fun Q hQ => fx_Ph_number (u := u) (by omega) a2 hQ, fun Q hQ => fx_Mo_number (u := u) (by omega) b hQ, hI.t1, rfl⟩
theorem cp_line (hu : 60000 ≤ u) (hI : Inv t pa pb ga I J) : CP m_Ph_line m_Mo_line [.int x1, .int x2] t pa pb ga I J := by
  obtain ⟨v, a, b⟩ := st_line (u := u) (J := J) (x := x1) (y := x2) (pa := pa) (pb := pb) hI.2.1.2.1
  have a2 : F_Ph_line u pa pb ga x1 x2 I J = some (v, I, J) := by
    unfold F_Ph_line
    rw [a, bd_s]
  exact ⟨v, pa, pb, ga, I, J, I, J, fun Q hQ => fx_Ph_line (u := u) (by omega) hI.2.2.2.1 hI.2.2.2.2.1 hI.2.1.2.1.1.1 a2 hQ, fun Q hQ => fx_Mo_line (u := u) (by omega) b hQ, hI.t1, rfl⟩
theorem cp_strip (hu : 60000 ≤ u) (hI : Inv t pa pb ga I J) : CP m_Ph_strip m_Mo_strip [.int x1, .int x2] t pa pb ga I J := by
  obtain ⟨v, a, b⟩ := st_strip (u := u) (J := J) (x := x1) (y := x2) (pa := pa) (pb := pb) (by omega) hI.2.1.2.1
  have a2 : F_Ph_strip u pa pb ga x1 x2 I J = some (v, I, J) := by
    unfold F_Ph_strip
    rw [a, bd_s]
  exact ⟨v, pa, pb, ga, I, J, I, J, fun Q hQ => fx_Ph_strip (u := u) (by omega) hI.2.2.2.1 hI.2.2.2.2.1 hI.2.1.2.1.1.1 a2 hQ, fun Q hQ => fx_Mo_strip (u := u) (by omega) b hQ, hI.t1, rfl⟩
theorem cp_left (hu : 60000 ≤ u) (hI : Inv t pa pb ga I J) : CP m_Ph_left m_Mo_left [.int x1] t pa pb ga I J := by
  obtain ⟨v, a, b⟩ := st_left (u := u) (J := J) (x := x1) hI.2.1.2.1
  have a2 : F_Ph_left u x1 I J = some (v, I, J) := by
    unfold F_Ph_left
    rw [a, bd_s]
  exact ⟨v, pa, pb, ga, I, J, I, J, fun Q hQ => fx_Ph_left (u := u) (by omega) a2 hQ, fun Q hQ => fx_Mo_left (u := u) (by omega) b hQ, hI.t1, rfl⟩
theorem cp_piece (hu : 60000 ≤ u) (hI : Inv t pa pb ga I J) : CP m_Ph_piece m_Mo_piece [.int x1, .int x2] t pa pb ga I J := by
  obtain ⟨v, a, b⟩ := st_piece (u := u) (J := J) (x := x1) (y := x2) hI.2.1.2.2
  have a2 : F_Ph_piece u pa pb ga x1 x2 I J = some (v, I, J) := by
    unfold F_Ph_piece
    rw [a, bd_s]
  exact ⟨v, pa, pb, ga, I, J, I, J, fun Q hQ => fx_Ph_piece (u := u) (by omega) hI.2.2.2.1 hI.2.2.2.2.1 hI.2.1.2.1.1.1 a2 hQ, fun Q hQ => fx_Mo_piece (u := u) (by omega) b hQ, hI.t1, rfl⟩
theorem cp_on (hu : 60000 ≤ u) (hI : Inv t pa pb ga I J) : CP m_Ph_on m_Mo_on [.int x1, .int x2] t pa pb ga I J := by
  obtain ⟨v, a, b⟩ := st_on (u := u) (J := J) (x := x1) (y := x2) (by omega) hI.2.1.2.2
  have a2 : F_Ph_on u pa pb ga x1 x2 I J = some (v, I, J) := by
    unfold F_Ph_on
    rw [a, bd_s]
  exact ⟨v, pa, pb, ga, I, J, I, J, fun Q hQ => fx_Ph_on (u := u) (by omega) hI.2.2.2.1 hI.2.2.2.2.1 hI.2.1.2.1.1.1 a2 hQ, fun Q hQ => fx_Mo_on (u := u) (by omega) b hQ, hI.t1, rfl⟩
theorem cp_mount (hu : 60000 ≤ u) (hI : Inv t pa pb ga I J) : CP m_Ph_mount m_Mo_mount [.int x1, .int x2] t pa pb ga I J := by
  obtain ⟨v, I1, I2, J2, a, b, c, d, e, f⟩ := st_mount (u := u) (J := J) (x := x1) (y := x2) (by omega) hI.1.2.2.1 hI.1.2.2.2 hI.2.1.1
  exact ⟨v, pa, pb, ga, I1, J, I2, J2, fun Q hQ => fx_Ph_mount (u := u) (by omega) a hQ, fun Q hQ => fx_Mo_mount (u := u) (by omega) b hQ, (hI.s4 (f hI.1.1) c d e).t1, J00 e (by omega)⟩
theorem cp_print (hu : 60000 ≤ u) (hI : Inv t pa pb ga I J) : CP m_Ph_print m_Mo_print [.int x1] t pa pb ga I J := by
  obtain ⟨v, I1, I2, J2, a, b, c, d, e, f⟩ := st_print (u := u) (J := J) (x := x1) (by omega) hI.2.1.1
  have a2 : F_Ph_print u x1 I J = some (v, I1, J) := by
    unfold F_Ph_print
    rw [a, bd_s]
  exact ⟨v, pa, pb, ga, I1, J, I2, J2, fun Q hQ => fx_Ph_print (u := u) (by omega) a2 hQ, fun Q hQ => fx_Mo_print (u := u) (by omega) b hQ, (hI.s4 (f hI.1.1) c d e).t1, J00 e (by omega)⟩
theorem cp_good (hu : 60000 ≤ u) (hI : Inv t pa pb ga I J) : CP m_Ph_good m_Mo_good [.int x1] t pa pb ga I J := by
  obtain ⟨v, I1, I2, J2, a, b, c, d, e, f⟩ := st_good (u := u) (J := J) (x := x1) (by omega) hI.2.1.1
  have a2 : F_Ph_good u x1 I J = some (v, I1, J) := by
    unfold F_Ph_good
    rw [a, bd_s]
  exact ⟨v, pa, pb, ga, I1, J, I2, J2, fun Q hQ => fx_Ph_good (u := u) (by omega) a2 hQ, fun Q hQ => fx_Mo_good (u := u) (by omega) b hQ, (hI.s4 (f hI.1.1) c d e).t1, J00 e (by omega)⟩
theorem cp_key (hu : 60000 ≤ u) (hI : Inv t pa pb ga I J) : CP m_Ph_key m_Mo_key [.int x1, .int x2] t pa pb ga I J := by
  obtain ⟨v, I1, I2, J2, a, b, c, d, e, f⟩ := st_key (u := u) (J := J) (x := x1) (y := x2) hI.2.1.1
  have a2 : F_Ph_key u x1 x2 I J = some (v, I1, J) := by
    unfold F_Ph_key
    rw [a, bd_s]
  exact ⟨v, pa, pb, ga, I1, J, I2, J2, fun Q hQ => fx_Ph_key (u := u) (by omega) a2 hQ, fun Q hQ => fx_Mo_key (u := u) (by omega) b hQ, (hI.s4 (f hI.1.1) c d e).t1, J00 e (by omega)⟩
theorem cp_aim (hu : 60000 ≤ u) (hI : Inv t pa pb ga I J) : CP m_Ph_aim m_Mo_aim [.int x1, .int x2, .int x3] t pa pb ga I J := by
  obtain ⟨v, I1, I2, J2, a, b, c, d, e, f⟩ := st_aim (u := u) (J := J) (x := x1) (y := x2) (z := x3) hI.2.1.1
  have a2 : F_Ph_aim u x1 x2 x3 I J = some (v, I1, J) := by
    unfold F_Ph_aim
    rw [a, bd_s]
  exact ⟨v, pa, pb, ga, I1, J, I2, J2, fun Q hQ => fx_Ph_aim (u := u) (by omega) a2 hQ, fun Q hQ => fx_Mo_aim (u := u) (by omega) b hQ, (hI.s4 (f hI.1.1) c d e).t1, J00 e (by omega)⟩
theorem cp_settled (hu : 60000 ≤ u) (hI : Inv t pa pb ga I J) : CP m_Ph_settled m_Mo_settled [.int x1] t pa pb ga I J := by
  obtain ⟨v, I1, I2, J2, a, b, c, d, e, f⟩ := st_settled (u := u) (J := J) (x := x1) (by omega) hI.2.1.1
  have a2 : F_Ph_settled u x1 I J = some (v, I1, J) := by
    unfold F_Ph_settled
    rw [a, bd_s]
  exact ⟨v, pa, pb, ga, I1, J, I2, J2, fun Q hQ => fx_Ph_settled (u := u) (by omega) a2 hQ, fun Q hQ => fx_Mo_settled (u := u) (by omega) b hQ, (hI.s4 (f hI.1.1) c d e).t1, J00 e (by omega)⟩
theorem cp_sorts (hu : 60000 ≤ u) (hI : Inv t pa pb ga I J) : CP m_Ph_sorts m_Mo_sorts [.int x1, .int x2, .int x3] t pa pb ga I J := by
  obtain ⟨v, I1, I2, a, b, c, d, e⟩ := st_sorts (u := u) (J := J) (x := x1) (y := x2) (z := x3) hI.2.1.2.1
  have a2 : F_Ph_sorts u x1 x2 x3 I J = some (v, I1, J) := by
    unfold F_Ph_sorts
    rw [a, bd_s]
  exact ⟨v, pa, pb, ga, I1, J, I2, J, fun Q hQ => fx_Ph_sorts (u := u) (by omega) a2 hQ, fun Q hQ => fx_Mo_sorts (u := u) (by omega) b hQ, (hI.s5 (e hI.1.1) c d).t1, rfl⟩
theorem cp_book (hu : 60000 ≤ u) (hI : Inv t pa pb ga I J) : CP m_Ph_book m_Mo_book [.int x1, .int x2, .int x3] t pa pb ga I J := by
  obtain ⟨v, I1, I2, a, b, c, d, e⟩ := st_book (u := u) (J := J) (x := x1) (y := x2) (z := x3) hI.1.2.2.1
  have a2 : F_Ph_book u x1 x2 x3 I J = some (v, I1, J) := by
    unfold F_Ph_book
    rw [a, bd_s]
  exact ⟨v, pa, pb, ga, I1, J, I2, J, fun Q hQ => fx_Ph_book (u := u) (by omega) a2 hQ, fun Q hQ => fx_Mo_book (u := u) (by omega) b hQ, (hI.s2 (e hI.1.1) c d).t1, rfl⟩
theorem cp_times (hu : 60000 ≤ u) (hI : Inv t pa pb ga I J) : CP m_Ph_times m_Mo_times [.int x1, .int x2] t pa pb ga I J := by
  obtain ⟨v, I1, I2, a, b, c, d, e⟩ := st_times (u := u) (J := J) (x := x1) (y := x2) hI.2.2.1.2
  have a2 : F_Ph_times u x1 x2 I J = some (v, I1, J) := by
    unfold F_Ph_times
    rw [a, bd_s]
  exact ⟨v, pa, pb, ga, I1, J, I2, J, fun Q hQ => fx_Ph_times (u := u) (by omega) a2 hQ, fun Q hQ => fx_Mo_times (u := u) (by omega) b hQ, (hI.s8 (e hI.1.1) c d).t1, rfl⟩
theorem cp_job (hu : 60000 ≤ u) (hI : Inv t pa pb ga I J) : CP m_Ph_job m_Mo_job [.int x1, .int x2, .int x3, .int x4] t pa pb ga I J := by
  obtain ⟨v, I1, I2, a, b, c, d, e⟩ := st_job (u := u) (J := J) (x := x1) (y := x2) (z := x3) (w := x4) hI.2.2.1.2
  have a2 : F_Ph_job u x1 x2 x3 x4 I J = some (v, I1, J) := by
    unfold F_Ph_job
    rw [a, bd_s]
  exact ⟨v, pa, pb, ga, I1, J, I2, J, fun Q hQ => fx_Ph_job (u := u) (by omega) a2 hQ, fun Q hQ => fx_Mo_job (u := u) (by omega) b hQ, (hI.s8 (e hI.1.1) c d).t1, rfl⟩
theorem cp_drop (hu : 60000 ≤ u) (hI : Inv t pa pb ga I J) : CP m_Ph_drop m_Mo_drop [.int x1] t pa pb ga I J := by
  obtain ⟨v, I1, I2, a, b, c, d, e⟩ := st_drop (u := u) (J := J) (x := x1) (by omega) hI.2.2.1.2
  have a2 : F_Ph_drop u x1 I J = some (v, I1, J) := by
    unfold F_Ph_drop
    rw [a, bd_s]
  exact ⟨v, pa, pb, ga, I1, J, I2, J, fun Q hQ => fx_Ph_drop (u := u) (by omega) a2 hQ, fun Q hQ => fx_Mo_drop (u := u) (by omega) b hQ, (hI.s8 (e hI.1.1) c d).t1, rfl⟩
theorem cp_order (hu : 60000 ≤ u) (hI : Inv t pa pb ga I J) : CP m_Ph_order m_Mo_order [.int x1] t pa pb ga I J := by
  obtain ⟨v, I1, I2, a, b, c, d, e⟩ := st_order (u := u) (J := J) (x := x1) hu hI.2.2.1.2
  have a2 : F_Ph_order u x1 I J = some (v, I1, J) := by
    unfold F_Ph_order
    rw [a, bd_s]
  exact ⟨v, pa, pb, ga, I1, J, I2, J, fun Q hQ => fx_Ph_order (u := u) (by omega) a2 hQ, fun Q hQ => fx_Mo_order (u := u) (by omega) b hQ, (hI.s8 (e hI.1.1) c d).t1, rfl⟩
theorem cp_when (hu : 60000 ≤ u) (hI : Inv t pa pb ga I J) : CP m_Ph_when m_Mo_when [.int x1, .int x2] t pa pb ga I J := by
  obtain ⟨v, I1, I2, a, b, c, d, e⟩ := st_when (u := u) (J := J) (x := x1) (y := x2) hu hI.2.2.1.2
  have a2 : F_Ph_when u x1 x2 I J = some (v, I1, J) := by
    unfold F_Ph_when
    rw [a, bd_s]
  exact ⟨v, pa, pb, ga, I1, J, I2, J, fun Q hQ => fx_Ph_when (u := u) (by omega) a2 hQ, fun Q hQ => fx_Mo_when (u := u) (by omega) b hQ, (hI.s8 (e hI.1.1) c d).t1, rfl⟩
theorem cp_bundles (hu : 60000 ≤ u) (hI : Inv t pa pb ga I J) : CP m_Ph_bundles m_Mo_bundles [.int x1, .int x2] t pa pb ga I J := by
  obtain ⟨v, I1, J1, I2, J2, a, b, c, d, e, f⟩ := st_bundles (u := u) (x := x1) (y := x2) (by omega) hI.2.2.1.1
  exact ⟨v, pa, pb, ga, I1, J1, I2, J2, fun Q hQ => fx_Ph_bundles (u := u) (by omega) a hQ, fun Q hQ => fx_Mo_bundles (u := u) (by omega) b hQ, (hI.s7 (f hI.1.1) c d e).t1, J00 e (by omega)⟩
theorem cp_letter (hu : 60000 ≤ u) (hI : Inv t pa pb ga I J) : CP m_Ph_letter m_Mo_letter [.int x1, .int x2] t pa pb ga I J := by
  obtain ⟨v, I1, J1, I2, J2, a, b, c, d, e, f⟩ := st_letter (u := u) (x := x1) (y := x2) (by omega) hI.2.2.1.1
  exact ⟨v, pa, pb, ga, I1, J1, I2, J2, fun Q hQ => fx_Ph_letter (u := u) (by omega) a hQ, fun Q hQ => fx_Mo_letter (u := u) (by omega) b hQ, (hI.s7 (f hI.1.1) c d e).t1, J00 e (by omega)⟩
theorem cp_bundle (hu : 60000 ≤ u) (hI : Inv t pa pb ga I J) : CP m_Ph_bundle m_Mo_bundle [.int x1, .int x2] t pa pb ga I J := by
  obtain ⟨v, I1, J1, I2, J2, a, b, c, d, e, f⟩ := st_bundle (u := u) (x := x1) (y := x2) (by omega) hI.2.2.1.1
  exact ⟨v, pa, pb, ga, I1, J1, I2, J2, fun Q hQ => fx_Ph_bundle (u := u) (by omega) a hQ, fun Q hQ => fx_Mo_bundle (u := u) (by omega) b hQ, (hI.s7 (f hI.1.1) c d e).t1, J00 e (by omega)⟩
theorem cp_strike (hu : 60000 ≤ u) (hI : Inv t pa pb ga I J) : CP m_Ph_strike m_Mo_strike [.int x1] t pa pb ga I J := by
  obtain ⟨v, I1, J1, I2, J2, a, b, c, d, e, f⟩ := st_strike (u := u) (x := x1) (by omega) hI.2.2.1.1
  exact ⟨v, pa, pb, ga, I1, J1, I2, J2, fun Q hQ => fx_Ph_strike (u := u) (by omega) a hQ, fun Q hQ => fx_Mo_strike (u := u) (by omega) b hQ, (hI.s7 (f hI.1.1) c d e).t1, J00 e (by omega)⟩
theorem cp_letters (hu : 60000 ≤ u) (ht : t ≤ 1000) (hI : Inv t pa pb ga I J) : CP m_Ph_letters m_Mo_letters [] t pa pb ga I J := by
  obtain ⟨v, I1, J1, I2, J2, a, b, c, d, e, f⟩ := st_letters (u := u) (by omega) ht hI.1.1 hI.2.2.1.1
  exact ⟨v, pa, pb, ga, I1, J1, I2, J2, fun Q hQ => fx_Ph_letters (u := u) (by omega) a hQ, fun Q hQ => fx_Mo_letters (u := u) (by omega) b hQ, hI.s7 f c d e, J00 e (by omega)⟩
theorem cp_distribute (hu : 60000 ≤ u) (hI : Inv t pa pb ga I J) : CP m_Ph_distribute m_Mo_distribute [.int x1] t pa pb ga I J := by
  obtain ⟨v, I1, ga2, I2, a, b, c, d, e⟩ := pc_distribute (k := 796) (u := u) (pa := pa) (pb := pb) (J := J) (x := x1) (by omega) hI.2.1.2.1
  exact ⟨v, pa, pb, ga2, I1, J, I2, J, fun Q hQ => a Q hQ, fun Q hQ => fx_Mo_distribute (u := u) (by omega) b hQ, (hI.s5 (e hI.1.1) c d).t1, rfl⟩
theorem cp_pile (hu : 60000 ≤ u) (hI : Inv t pa pb ga I J) : CP m_Ph_pile m_Mo_pile [.int x1, .int x2] t pa pb ga I J := by
  obtain ⟨o1, o2, o3⟩ := hI.2.2.2
  by_cases c : (1 ≤ x1 ∧ x1 ≤ 999) ∧ (1 ≤ x2 ∧ x2 ≤ 999)
  · obtain ⟨b, n, m1, I1, pp, ff, ee, I2, a1, a2, a3, a4, a5, a6, a7, a8⟩ := st_pile (u := u) (J := J) (by omega) o1 o2 o3 hI.1.1 c.1 c.2
    have hcl : ∀ (R : pm_RR) (pa2 pb2 : Nat) (L4 : Value), R = pm_RT pa2 pb2 ga → L4.category = 1 → ∀ Q : Option Value → pm_H → Prop, Q (some (.int (ansW ee (nI m1)))) (hp (tc (pm_up I1 17 1 0) pp ff ee) J (pm_RT pa2 pb2 ga)) → Px 799 176 m_Ph_pile 77 [.ref 16, .int x1, .int x2, .int (nI m1), L4] [] (hp (tc I1 pp ff ee) J R) Q := by
      intro R pa2 pb2 L4 hR hL4 Q hQ
      subst hR
      have h77 : Px 799 176 m_Ph_pile 77 [.ref 16, .int x1, .int x2, .int (nI m1), .null] [] (hp (tc I1 pp ff ee) J (pm_RT pa2 pb2 ga)) Q := bk_Ph_pile_77 (fx_Ta_close (u := u) (by omega) (t_close2 a2 a3) ⟨rfl, bk_Ph_pile_85 hQ⟩)
      exact Px_wk h77 ⟨Or.inl rfl, Or.inl rfl, Or.inl rfl, Or.inl rfl, Or.inr ⟨rfl, hL4⟩, trivial⟩
    have hstart : ∀ Q : Option Value → pm_H → Prop, Px 799 176 m_Ph_pile 54 [.ref 16, .int x1, .int x2, .int (nI m1), .null] [.int (b2i (decide (ee = none)))] (hp (tc I1 pp ff ee) J (pm_RT pa pb ga)) Q → Px 799 176 m_Ph_pile 0 [.ref 16, .int x1, .int x2, .null, .null] [] (hp I J (pm_RT pa pb ga)) Q := by
      intro Q h54
      refine bk_Ph_pile_0 ⟨fun z => absurd z (Int32.not_lt.mpr c.1.1), fun _ => ⟨fun z => absurd z (Int32.not_lt.mpr c.1.2), fun _ => ⟨fun z => absurd z (Int32.not_lt.mpr c.2.1), fun _ => ⟨fun _ => ?_, fun z => absurd c.2.2 z⟩⟩⟩⟩
      refine fx_Ta_open (u := u) (by omega) t_open ⟨rfl, ?_⟩
      refine bk_Ph_pile_33 ⟨oP_ob o2, ?_⟩
      refine fx_Pi_takeText (u := u) (by omega) o2 a1 ⟨rfl, ?_⟩
      refine bk_Ph_pile_46 ?_
      exact fx_Ta_isRight (u := u) (by omega) (t_isRight a2 a3) ⟨rfl, h54⟩
    cases hee : ee with
    | none =>
      subst hee
      refine ⟨ansW none (nI m1), pb, pa, ga, tc (pm_up I1 17 1 0) pp ff none, J, I2, J, fun Q hQ => ?_, fun Q hQ => fx_Mo_pile (u := u) (by omega) a4 hQ, (hI.s6 a5 (a7 rfl) a6 o2 o1 (fun z => o3 z.symm)).t1, rfl⟩
      refine hstart Q (bk_Ph_pile_54 ⟨fun z => absurd z (by decide), fun _ => ?_⟩)
      exact hcl _ pb pa (.ref pb) RT_sw rfl Q hQ
    | some y =>
      subst hee
      refine ⟨ansW (some y) (nI m1), pa, pb, ga, tc (pm_up I1 17 1 0) pp ff (some y), J, I2, J, fun Q hQ => ?_, fun Q hQ => fx_Mo_pile (u := u) (by omega) a4 hQ, (hI.s6 a5 (a8 (fun z => by cases z) hI.2.1.2.2) a6 o1 o2 o3).t1, rfl⟩
      refine hstart Q (bk_Ph_pile_54 ⟨fun _ => ?_, fun z => absurd (show b2i (decide ((some y : Option Nat) = none)) = 0 by simp [b2i]) z⟩)
      exact hcl _ pa pb .null rfl rfl Q hQ
  · refine ⟨-1, pa, pb, ga, I, J, I, J, fun Q hQ => ?_, fun Q hQ => ?_, hI.t1, rfl⟩
    · refine bk_Ph_pile_0 ⟨fun _ => hQ, fun z1 => ⟨fun _ => hQ, fun z2 => ⟨fun _ => hQ, fun z3 => ⟨fun z4 => ?_, fun _ => hQ⟩⟩⟩⟩
      exact absurd ⟨⟨Int32.not_lt.mp z1, Int32.not_lt.mp z2⟩, Int32.not_lt.mp z3, z4⟩ c
    · refine fx_Mo_pile (u := u) (r := -1) (by omega) ?_ hQ
      unfold F_Mo_pile
      rw [m_is, bd_s]
      by_cases z1 : (1 : Int32) ≤ x1 ∧ x1 ≤ 999
      · rw [decide_eq_true z1, if_neg (by decide), m_is, bd_s, decide_eq_false (fun z2 => c ⟨z1, z2⟩), if_neg (by decide)]
      · rw [decide_eq_false z1, if_pos (by decide)]
end Calls
