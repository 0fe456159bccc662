/-! ===== count: the calls ===== -/
theorem st_count {u t pa pb : Nat} {ga : Nat → Nat} {I : pm_II} {J : pm_JJ} {x : Int32} (hu : 60000 ≤ u) (h : Inv t pa pb ga I J) : ∃ v I1 I2, F_Ph_count u pa pb ga x I J = some (v, I1, J) ∧ F_Mo_count u x I1 J = some (v, I2, J) ∧ Inv t pa pb ga I2 J := by
  have hI := h
  obtain ⟨⟨p0, p1, p2, p3⟩, ⟨p4, p5, p6⟩, ⟨p7, p8⟩, o1, o2, o3⟩ := h
  have hR : ∀ (A X : pm_II), Inv t pa pb ga A J → On kRm A X → P8 X → Inv t pa pb ga X J := fun A X hA o q => hA.s8 (Ptape_k8 (o.mono (fun c k z => kRm_k8 z)) hA.1.1) q ((o.mono (fun c k z => kRm_k8 z)).fr (fun c k z => k8_own z))
  obtain ⟨X, P, x1, x2, x3, x4, x5, x6, x7⟩ := m_count (u := u) (J := J) (x := x) hu p1 p8
  have hX := hR I X hI x3 x4
  have e : ∀ c k, ¬ kRm c k → X c k = I c k := fun c k z => x3 c k z
  by_cases c0 : x = nI 0
  · subst c0
    obtain ⟨n, col, pr, bi, du, ch, dr, I1, hb, a1, a8, a2, a3, a4, a5⟩ := fresh8 (u := u) (J := J) hu p8
    obtain ⟨I2, b1, b85, b2, b3, b4⟩ := a5 I1 a4 (On.refl _) (fun _ _ _ => rfl)
    obtain ⟨g1, g2, g3, g4, g5⟩ := both8 hb a3 b3
    have oc : On k8 I I1 := a2.mono (fun c k z => kRc_k8 z)
    have hI1 : Inv t pa pb ga I1 J := hI.s8 (Ptape_k8 oc p0) a4 (oc.fr (fun c k z => k8_own z))
    obtain ⟨X, P, y1, y2, y3, y4, y5, y6, y7⟩ := m_count (u := u) (J := J) (x := nI 0) hu hI1.1.2.1 a4
    rw [b1] at y2
    injection y2 with y2
    injection y2 with _ y2
    injection y2 with y2 _
    subst y2
    refine ⟨I1 101 11, I1, I2, ?_, ?_, hR I1 I2 hI1 y3 y4⟩
    · unfold F_Ph_count F_Wo_lateInAll
      rw [if_pos rfl, a1, bd_s, bd_s]
    · rw [y1]
      unfold swc
      rw [if_pos rfl, g1]
  by_cases c1 : x = nI 1
  · subst c1
    obtain ⟨n, col, pr, bi, du, ch, dr, I1, hb, a1, a8, a2, a3, a4, a5⟩ := fresh8 (u := u) (J := J) hu p8
    obtain ⟨I2, b1, b85, b2, b3, b4⟩ := a5 I1 a4 (On.refl _) (fun _ _ _ => rfl)
    obtain ⟨g1, g2, g3, g4, g5⟩ := both8 hb a3 b3
    have oc : On k8 I I1 := a2.mono (fun c k z => kRc_k8 z)
    have hI1 : Inv t pa pb ga I1 J := hI.s8 (Ptape_k8 oc p0) a4 (oc.fr (fun c k z => k8_own z))
    obtain ⟨X, P, y1, y2, y3, y4, y5, y6, y7⟩ := m_count (u := u) (J := J) (x := nI 1) hu hI1.1.2.1 a4
    rw [b1] at y2
    injection y2 with y2
    injection y2 with _ y2
    injection y2 with y2 _
    subst y2
    refine ⟨I1 101 12, I1, I2, ?_, ?_, hR I1 I2 hI1 y3 y4⟩
    · unfold F_Ph_count F_Wo_lastEnd
      rw [if_neg (by decide), if_pos rfl, a1, bd_s, bd_s]
    · rw [y1]
      unfold swc
      rw [if_neg (by decide), if_pos rfl, g2]
  by_cases c2 : x = nI 2
  · subst c2
    obtain ⟨n, col, pr, bi, du, ch, dr, I1, hb, a1, a8, a2, a3, a4, a5⟩ := fresh8 (u := u) (J := J) hu p8
    obtain ⟨I2, b1, b85, b2, b3, b4⟩ := a5 I1 a4 (On.refl _) (fun _ _ _ => rfl)
    obtain ⟨g1, g2, g3, g4, g5⟩ := both8 hb a3 b3
    have oc : On k8 I I1 := a2.mono (fun c k z => kRc_k8 z)
    have hI1 : Inv t pa pb ga I1 J := hI.s8 (Ptape_k8 oc p0) a4 (oc.fr (fun c k z => k8_own z))
    obtain ⟨X, P, y1, y2, y3, y4, y5, y6, y7⟩ := m_count (u := u) (J := J) (x := nI 2) hu hI1.1.2.1 a4
    rw [b1] at y2
    injection y2 with y2
    injection y2 with _ y2
    injection y2 with y2 _
    subst y2
    refine ⟨I1 101 13, I1, I2, ?_, ?_, hR I1 I2 hI1 y3 y4⟩
    · unfold F_Ph_count F_Wo_changesOfColour
      rw [if_neg (by decide), if_neg (by decide), if_pos rfl, a1, bd_s, bd_s]
    · rw [y1]
      unfold swc
      rw [if_neg (by decide), if_neg (by decide), if_pos rfl, g3]
  by_cases c3 : x = nI 3
  · subst c3
    refine ⟨nI P, I, X, ?_, ?_, hX⟩
    · unfold F_Ph_count F_Ro_inPlan
      rw [if_neg (by decide), if_neg (by decide), if_neg (by decide), if_pos rfl, bd_s]
      rw [x6]
    · rw [x1]
      unfold swc
      rw [if_neg (by decide), if_neg (by decide), if_neg (by decide), if_pos rfl]
      rw [e 120 15 (by unfold kRm; omega), x7]
  by_cases c4 : x = nI 4
  · subst c4
    have hl := c_lall (u := u) (J := J) (I := I) (by omega) x5 x6 P 0 u (by omega) (by omega)
    have hl2 : F_Ro_lostInAll u I J = some (ls I P, I, J) := hl
    refine ⟨ls I P, I, X, ?_, ?_, hX⟩
    · unfold F_Ph_count
      rw [if_neg (by decide), if_neg (by decide), if_neg (by decide), if_neg (by decide), if_pos rfl]
      rw [hl2, bd_s]
    · rw [x1]
      unfold swc
      rw [if_neg (by decide), if_neg (by decide), if_neg (by decide), if_neg (by decide), if_pos rfl]
  by_cases c5 : x = nI 5
  · subst c5
    obtain ⟨R, C, s, wy, cal, lf, sk, tn, tb, q⟩ := p2
    refine ⟨nI R * nI C, I, X, ?_, ?_, hX⟩
    · unfold F_Ph_count F_Fo_leaves
      rw [if_neg (by decide), if_neg (by decide), if_neg (by decide), if_neg (by decide), if_neg (by decide), if_pos rfl, bd_s]
      rw [q.2.1.1, q.2.1.2.1]
    · rw [x1]
      unfold swc
      rw [if_neg (by decide), if_neg (by decide), if_neg (by decide), if_neg (by decide), if_neg (by decide), if_pos rfl]
      rw [e 120 18 (by unfold kRm; omega), e 120 19 (by unfold kRm; omega), q.2.2.1.1, q.2.2.1.2.1]
  by_cases c6 : x = nI 6
  · subst c6
    obtain ⟨R, C, s, wy, cal, lf, sk, tn, tb, q⟩ := p2
    refine ⟨nI s, I, X, ?_, ?_, hX⟩
    · unfold F_Ph_count F_Fo_sheets
      rw [if_neg (by decide), if_neg (by decide), if_neg (by decide), if_neg (by decide), if_neg (by decide), if_neg (by decide), if_pos rfl, bd_s]
      rw [q.2.1.2.2.1]
    · rw [x1]
      unfold swc
      rw [if_neg (by decide), if_neg (by decide), if_neg (by decide), if_neg (by decide), if_neg (by decide), if_neg (by decide), if_pos rfl]
      rw [e 120 20 (by unfold kRm; omega), q.2.2.1.2.2.1]
  by_cases c7 : x = nI 7
  · subst c7
    obtain ⟨Z, ZR, aim, tol, spo, key, cov, s, qb, qc, qm⟩ := p4
    refine ⟨nI s.2.2.2.2.2.1, I, X, ?_, ?_, hX⟩
    · unfold F_Ph_count F_Pr_sheetsPrinted
      rw [if_neg (by decide), if_neg (by decide), if_neg (by decide), if_neg (by decide), if_neg (by decide), if_neg (by decide), if_neg (by decide), if_pos rfl, bd_s]
      rw [qc.1.2.2.2.2.1]
    · rw [x1]
      unfold swc
      rw [if_neg (by decide), if_neg (by decide), if_neg (by decide), if_neg (by decide), if_neg (by decide), if_neg (by decide), if_neg (by decide), if_pos rfl]
      rw [e 120 37 (by unfold kRm; omega), qm.1.2.2.2.2.2.1]
  by_cases c8 : x = nI 8
  · subst c8
    obtain ⟨Z, ZR, aim, tol, spo, key, cov, s, qb, qc, qm⟩ := p4
    refine ⟨nI s.2.2.2.2.2.2, I, X, ?_, ?_, hX⟩
    · unfold F_Ph_count F_Pr_sheetsGood
      rw [if_neg (by decide), if_neg (by decide), if_neg (by decide), if_neg (by decide), if_neg (by decide), if_neg (by decide), if_neg (by decide), if_neg (by decide), if_pos rfl, bd_s]
      rw [qc.1.2.2.2.2.2]
    · rw [x1]
      unfold swc
      rw [if_neg (by decide), if_neg (by decide), if_neg (by decide), if_neg (by decide), if_neg (by decide), if_neg (by decide), if_neg (by decide), if_neg (by decide), if_pos rfl]
      rw [e 120 38 (by unfold kRm; omega), qm.1.2.2.2.2.2.2]
  by_cases c9 : x = nI 9
  · subst c9
    obtain ⟨_, _, g, g1, g2, g3, _⟩ := p5
    refine ⟨nI g, I, X, ?_, ?_, hX⟩
    · unfold F_Ph_count F_Ty_linesStanding
      rw [if_neg (by decide), if_neg (by decide), if_neg (by decide), if_neg (by decide), if_neg (by decide), if_neg (by decide), if_neg (by decide), if_neg (by decide), if_neg (by decide), if_pos rfl, bd_s]
      rw [g2]
    · rw [x1]
      unfold swc
      rw [if_neg (by decide), if_neg (by decide), if_neg (by decide), if_neg (by decide), if_neg (by decide), if_neg (by decide), if_neg (by decide), if_neg (by decide), if_neg (by decide), if_pos rfl]
      rw [e 120 56 (by unfold kRm; omega), g3]
  by_cases c10 : x = nI 10
  · subst c10
    obtain ⟨m, m1, m2, m3, m4⟩ := p6
    refine ⟨nI m, I, X, ?_, ?_, hX⟩
    · unfold F_Ph_count F_Pi_howMany
      rw [if_neg (by decide), if_neg (by decide), if_neg (by decide), if_neg (by decide), if_neg (by decide), if_neg (by decide), if_neg (by decide), if_neg (by decide), if_neg (by decide), if_neg (by decide), if_pos rfl, bd_s]
      rw [m2]
    · rw [x1]
      unfold swc
      rw [if_neg (by decide), if_neg (by decide), if_neg (by decide), if_neg (by decide), if_neg (by decide), if_neg (by decide), if_neg (by decide), if_neg (by decide), if_neg (by decide), if_neg (by decide), if_pos rfl]
      rw [e 120 65 (by unfold kRm; omega), m3]
  by_cases c11 : x = nI 11
  · subst c11
    obtain ⟨s, cm, K, most, least, q⟩ := p7
    refine ⟨nI s.1, I, X, ?_, ?_, hX⟩
    · unfold F_Ph_count F_Ma_howMany
      rw [if_neg (by decide), if_neg (by decide), if_neg (by decide), if_neg (by decide), if_neg (by decide), if_neg (by decide), if_neg (by decide), if_neg (by decide), if_neg (by decide), if_neg (by decide), if_neg (by decide), if_pos rfl, bd_s]
      rw [q.2.1.2.2.2.2.1]
    · rw [x1]
      unfold swc
      rw [if_neg (by decide), if_neg (by decide), if_neg (by decide), if_neg (by decide), if_neg (by decide), if_neg (by decide), if_neg (by decide), if_neg (by decide), if_neg (by decide), if_neg (by decide), if_neg (by decide), if_pos rfl]
      rw [e 120 73 (by unfold kRm; omega), q.2.2.2.2.2.2.1]
  by_cases c12 : x = nI 12
  · subst c12
    obtain ⟨s, cm, K, most, least, hq⟩ := p7
    obtain ⟨I1, e1, e2, e3, e4⟩ := hq.ref (u := u) (by omega)
    have o7 : On k7 I I1 := e4.mono (fun c k z => kRI_k7 z)
    have hI1 : Inv t pa pb ga I1 J := hI.s7 (Ptape_k7 o7 p0) ⟨s, cm, K, most, least, e2⟩ (o7.fr (fun c k z => k7_own z)) (Fr.refl _ _)
    obtain ⟨X, P, y1, y2, y3, y4, y5, y6, y7⟩ := m_count (u := u) (J := J) (x := nI 12) hu hI1.1.2.1 hI1.2.2.1.2
    refine ⟨nI (bun s.1 most least (gL s)).1, I1, X, ?_, ?_, hR I1 X hI1 y3 y4⟩
    · unfold F_Ph_count F_Bu_howMany
      rw [if_neg (by decide), if_neg (by decide), if_neg (by decide), if_neg (by decide), if_neg (by decide), if_neg (by decide), if_neg (by decide), if_neg (by decide), if_neg (by decide), if_neg (by decide), if_neg (by decide), if_neg (by decide), if_pos rfl, e1, bd_s, bd_s, e3.1]
    · rw [y1]
      unfold swc
      rw [if_neg (by decide), if_neg (by decide), if_neg (by decide), if_neg (by decide), if_neg (by decide), if_neg (by decide), if_neg (by decide), if_neg (by decide), if_neg (by decide), if_neg (by decide), if_neg (by decide), if_neg (by decide), if_pos rfl, y3 120 77 (by unfold kRm; omega), e2.2.2.2.2.2.1.1]
  by_cases c13 : x = nI 13
  · subst c13
    obtain ⟨n, col, pr, bi, du, ch, dr, hb, hc, hm, h14, h91⟩ := p8
    refine ⟨nI n, I, X, ?_, ?_, hX⟩
    · unfold F_Ph_count F_Wo_howMany
      rw [if_neg (by decide), if_neg (by decide), if_neg (by decide), if_neg (by decide), if_neg (by decide), if_neg (by decide), if_neg (by decide), if_neg (by decide), if_neg (by decide), if_neg (by decide), if_neg (by decide), if_neg (by decide), if_neg (by decide), if_pos rfl, bd_s]
      rw [hc.1]
    · rw [x1]
      unfold swc
      rw [if_neg (by decide), if_neg (by decide), if_neg (by decide), if_neg (by decide), if_neg (by decide), if_neg (by decide), if_neg (by decide), if_neg (by decide), if_neg (by decide), if_neg (by decide), if_neg (by decide), if_neg (by decide), if_neg (by decide), if_pos rfl]
      rw [e 120 85 (by unfold kRm; omega), hm.1]
  refine ⟨-1, I, X, ?_, ?_, hX⟩
  · unfold F_Ph_count
    rw [if_neg c0, if_neg c1, if_neg c2, if_neg c3, if_neg c4, if_neg c5, if_neg c6, if_neg c7, if_neg c8, if_neg c9, if_neg c10, if_neg c11, if_neg c12, if_neg c13]
  · rw [x1]
    unfold swc
    rw [if_neg c0, if_neg c1, if_neg c2, if_neg c3, if_neg c4, if_neg c5, if_neg c6, if_neg c7, if_neg c8, if_neg c9, if_neg c10, if_neg c11, if_neg c12, if_neg c13]
