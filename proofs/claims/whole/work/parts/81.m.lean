/-! ===== fold: the call ===== -/
def sdE (b : Nat → Int32) (n p : Nat) (e : Option Nat) : Option Nat := if nnV b n p e = 1 ∨ nnV b n p e = 2 ∨ nnV b n p e = 4 ∨ nnV b n p e = 8 then nnE b n p e 1 8 else q_bl (nnE b n p e 1 8) (nnF b n p e)
section FC
variable {u : Nat} {I M : pm_II} {J : pm_JJ} {b : Nat → Int32} {n p f : Nat} {e : Option Nat}
theorem Ok_sd (ho : Ok n p e) : Ok n (nnP b n p e) (sdE b n p e) := by
  unfold sdE
  split
  · exact Ok_nn ho
  · exact Ok_bl (Ok_nn ho) (nnF_le ho)
theorem sd_ok (h : sdE b n p e = none) : e = none ∧ (nnV b n p e = 1 ∨ nnV b n p e = 2 ∨ nnV b n p e = 4 ∨ nnV b n p e = 8) := by
  unfold sdE at h
  split at h
  · rename_i q; exact ⟨nnE_n h, q⟩
  · cases hq : nnE b n p e 1 8 with
    | none => rw [hq] at h; cases h
    | some y => rw [hq] at h; cases h
theorem t_side (hu : 10 ≤ u) (ho : Ok n p e) (hb : Tb b n I) : F_Fo_readSide u (tc I p f e) J = some (nI (nnV b n p e), tc I (nnP b n p e) (nnF b n p e) (sdE b n p e), J) := by
  unfold F_Fo_readSide F_Fo_readSide_33
  have hv := nnV_lt (b := b) (n := n) (p := p) (e := e)
  rw [t_nn hu ho hb, bd_s, t_blameToken (Ok_nn ho) hb, bd_s, nl_1, nl_2, nl_4, nl_8]
  simp (disch := omega) only [nI_eq]
  unfold sdE
  by_cases c1 : nnV b n p e = 1
  · rw [if_pos c1, if_pos (by omega)]; rfl
  · by_cases c2 : nnV b n p e = 2
    · rw [if_neg c1, if_pos c2, if_pos (by omega)]; rfl
    · by_cases c3 : nnV b n p e = 4
      · rw [if_neg c1, if_neg c2, if_pos c3, if_pos (by omega)]; rfl
      · by_cases c4 : nnV b n p e = 8
        · rw [if_neg c1, if_neg c2, if_neg c3, if_pos c4, if_pos (by omega)]; rfl
        · rw [if_neg c1, if_neg c2, if_neg c3, if_neg c4, if_neg (by omega)]; rfl
theorem m_power (hu : 10 ≤ u) (ho : Ok n p e) (hM : Mb b n M) : F_Mo_power u (mc M p e) J = some (nI (nnV b n p e), mc M (nnP b n p e) (sdE b n p e), J) := by
  unfold F_Mo_power F_Mo_power_52
  have hv := nnV_lt (b := b) (n := n) (p := p) (e := e)
  have q3 := Om_ex (b := b) (c := 32) ho.m
  rw [m_need (by decide) ho.m hM, bd_s, m_told hu q3 hM, bd_s]
  have z1 : q_exP b n p e 32 + q_dd b n (q_exP b n p e 32) (q_exE b n p e 32) = nnP b n p e := rfl
  have z2 : q_nmE b n (q_exP b n p e 32) (q_exE b n p e 32) 1 8 = nnE b n p e 1 8 := rfl
  have z3 : q_nmV b n (q_exP b n p e 32) (q_exE b n p e 32) = nnV b n p e := rfl
  have z4 : (mc M (q_exP b n p e 32) (q_exE b n p e 32)) 120 4 = nI (nnF b n p e) := rfl
  rw [z1, z2, z3, z4, m_bad (Ok_nn ho).m hM, bd_s, m_fail (Ok_nn ho).m hM, bd_s]
  have n1 : (1 : Int32) = nI 1 := rfl
  have n2 : (2 : Int32) = nI 2 := rfl
  have n4 : (4 : Int32) = nI 4 := rfl
  have n8 : (8 : Int32) = nI 8 := rfl
  have k1 : (nI (nnV b n p e) = 1) ↔ nnV b n p e = 1 := by rw [n1, nI_eq (by omega) (by omega)]
  have k2 : (nI (nnV b n p e) = 2) ↔ nnV b n p e = 2 := by rw [n2, nI_eq (by omega) (by omega)]
  have k4 : (nI (nnV b n p e) = 4) ↔ nnV b n p e = 4 := by rw [n4, nI_eq (by omega) (by omega)]
  have k8 : (nI (nnV b n p e) = 8) ↔ nnV b n p e = 8 := by rw [n8, nI_eq (by omega) (by omega)]
  simp only [k1, k2, k4, k8]
  unfold sdE
  cases hE : nnE b n p e 1 8 with
  | some y =>
    rw [if_pos (by simp [b2i])]
    have : (if nnV b n p e = 1 ∨ nnV b n p e = 2 ∨ nnV b n p e = 4 ∨ nnV b n p e = 8 then some y else q_bl (some y) (nnF b n p e)) = some y := by split <;> rfl
    rw [this]
  | none =>
    rw [if_neg (by simp [b2i])]
    by_cases c1 : nnV b n p e = 1
    · rw [if_pos c1, if_pos (by omega)]
    · by_cases c2 : nnV b n p e = 2
      · rw [if_neg c1, if_pos c2, if_pos (by omega)]
      · by_cases c3 : nnV b n p e = 4
        · rw [if_neg c1, if_neg c2, if_pos c3, if_pos (by omega)]
        · by_cases c4 : nnV b n p e = 8
          · rw [if_neg c1, if_neg c2, if_neg c3, if_pos c4, if_pos (by omega)]
          · rw [if_neg c1, if_neg c2, if_neg c3, if_neg c4, if_neg (by omega)]
theorem t_halv {x : Int32} {X : pm_II} : ∃ v, F_Fo_halvings u x X J = some (v, X, J) := by
  unfold F_Fo_halvings
  split
  · split
    · split
      · exact ⟨_, rfl⟩
      · exact ⟨_, rfl⟩
    · exact ⟨_, rfl⟩
  · exact ⟨_, rfl⟩
theorem hv_ex {R : Nat} (h : R = 1 ∨ R = 2 ∨ R = 4 ∨ R = 8) : ∃ a, a ≤ 3 ∧ R = 2 ^ a ∧ (∀ (X : pm_II), F_Fo_halvings u (nI R) X J = some (nI a, X, J)) ∧ ∀ (X : pm_II), F_Mo_halves u (nI R) X J = some (nI a, X, J) := by
  rcases h with rfl | rfl | rfl | rfl
  · exact ⟨0, by omega, rfl, fun _ => rfl, fun _ => rfl⟩
  · exact ⟨1, by omega, rfl, fun _ => rfl, fun _ => rfl⟩
  · exact ⟨2, by omega, rfl, fun _ => rfl, fun _ => rfl⟩
  · exact ⟨3, by omega, rfl, fun _ => rfl, fun _ => rfl⟩
/-- with a fault behind the sides nothing more is read -/
theorem t_foldS {x y : Int32} {z : Nat} (hu : 10 ≤ u) (ho : Ok n p (some z)) (hb : Tb b n I) : (bd (F_Fo_halvings u x (tc I p f (some z)) J) fun r39 I39 J39 => bd (F_Fo_halvings u y I39 J39) fun r43 I43 J43 => bd (F_Fo_readFolds u r39 r43 I43 J43) fun r46 I46 J46 => bd (F_Ta_expect u (10 : Int32) I46 J46) fun _ I54 J54 => bd (F_Ta_finish u I54 J54) fun _ I58 J58 => bd (F_Ta_isRight u I58 J58) fun r62 I62 J62 => if ¬ r62 = 0 then (bd (F_Fo_foldSheet u x y r46 I62 J62) fun _ I75 J75 => bd (F_Fo_leaves u I75 J75) fun r79 I79 J79 => some (r79, I79, J79)) else some ((-1 : Int32), I62, J62)) = some (-1, tc I p f (some z), J) := by
  obtain ⟨v1, h1⟩ := t_halv (u := u) (J := J) (x := x) (X := tc I p f (some z))
  obtain ⟨v2, h2⟩ := t_halv (u := u) (J := J) (x := y) (X := tc I p f (some z))
  have h3 : F_Fo_readFolds u v1 v2 (tc I p f (some z)) J = some (0, tc I p f (some z), J) := by
    unfold F_Fo_readFolds
    obtain ⟨U, rfl⟩ : ∃ q, u = q + 1 := ⟨u - 1, by omega⟩
    rw [F_Fo_readFolds_9, if_neg (by decide), t_irS ho hb, bd_s, if_pos rfl]
    unfold F_Fo_readFolds_105
    rw [ite_self]
  rw [h1, bd_s, h2, bd_s, h3, bd_s, t_exS ho hb, bd_s, t_fiS ho hb, bd_s, t_irS ho hb, bd_s, if_neg (by decide)]
theorem m_238S {x1 x2 x5 : Int32} {z : Nat} (ho : Om n p (some z)) (hM : Mb b n M) : F_Mo_fold_238 u x1 x2 x5 (mc M p (some z)) J = some (-1000 - nI z, mc M p (some z), J) := by
  unfold F_Mo_fold_238
  rw [m_needS (by decide) ho hM, bd_s, m_badS ho hM, bd_s, if_pos (by decide)]
  unfold F_Mo_fold_270
  rw [m_badS ho hM, bd_s, if_neg (by decide)]
  rfl
theorem m_60S {x1 x2 : Int32} {z : Nat} (hu : 10 ≤ u) (ho : Om n p (some z)) (hM : Mb b n M) : F_Mo_fold_60 u x1 x2 (mc M p (some z)) J = some (-1000 - nI z, mc M p (some z), J) := by
  unfold F_Mo_fold_60 F_Mo_fold_81 F_Mo_fold_97
  obtain ⟨U, rfl⟩ : ∃ q, u = q + 1 := ⟨u - 1, by omega⟩
  rw [m_needS (by decide) ho hM, bd_s, m_badS ho hM, bd_s, if_neg (by decide), m_badS ho hM, bd_s, if_neg (by decide), F_Mo_fold_102, m_badS ho hM, bd_s, if_pos (by decide), m_238S ho hM]
theorem ft_text (hu : 2000 ≤ u) (hb : Tb b n I) :
    (∃ z I1 pp ff, Ok n pp (some z) ∧ On (fun c _ => c = 30) I I1 ∧ F_Fo_takeText u (tc I 0 0 none) J = some (-1, tc I1 pp ff (some z), J) ∧ ∀ M, Mb b n M → ∃ M1 p3, On (fun c _ => c = 135) M M1 ∧ (bd (F_Mo_isWord u 5 (mc M 0 none) J) fun r8 I8 J8 => if ¬ r8 = 0 then F_Mo_fold_19 u I8 J8 else bd (F_Mo_fail u (0 : Int32) I8 J8) fun _ I16 J16 => F_Mo_fold_19 u I16 J16) = some (-1000 - nI z, mc M1 p3 (some z), J)) ∨
    (∃ R C a c I1 pp ff, pp ≤ n ∧ a ≤ 3 ∧ c ≤ 3 ∧ R = 2 ^ a ∧ C = 2 ^ c ∧ On (fun c _ => c = 30) I I1 ∧ VLs (I1 30) R C (a + c) 0 0 ∧ F_Fo_takeText u (tc I 0 0 none) J = (bd (F_Fo_foldSheet u (nI R) (nI C) (nI (a + c)) (tc I1 pp ff none) J) fun _ I75 J75 => bd (F_Fo_leaves u I75 J75) fun r79 I79 J79 => some (r79, I79, J79)) ∧ ∀ M, Mb b n M → ∃ M1, On (fun c _ => c = 135) M M1 ∧ (∀ j, j < a + c → I1 30 j = M1 135 j) ∧ (bd (F_Mo_isWord u 5 (mc M 0 none) J) fun r8 I8 J8 => if ¬ r8 = 0 then F_Mo_fold_19 u I8 J8 else bd (F_Mo_fail u (0 : Int32) I8 J8) fun _ I16 J16 => F_Mo_fold_19 u I16 J16) = F_Mo_fold_270 u (nI R) (nI C) (nI (a + c)) (mc M1 pp none) J) := by
  have hn := hb.2.2
  have ho : Ok n 0 none := Ok_0 (by omega)
  unfold F_Fo_takeText
  cases h5 : q_wd b n 0 (pm_txt 5) with
  | false =>
    obtain ⟨p', hp', e1⟩ := t_kw0 (u := u) (J := J) (f := 0) (a := 5) (by omega) (by decide) (by decide) (by decide) ho hb h5
    have oS : Ok n p' (some 0) := (Ok_0 hp').s (by omega)
    left
    refine ⟨0, I, p', p', oS, On.refl _, ?_, fun M hM => ⟨M, 0, On.refl _, ?_⟩⟩
    · have es : ∀ f, F_Fo_readSide u (tc I p' f (some 0)) J = some (nI 0, tc I p' p' (some 0), J) := by
        intro f
        unfold F_Fo_readSide F_Fo_readSide_33
        rw [t_nnS (by omega) oS hb, bd_s, if_neg (by decide), if_neg (by decide), if_neg (by decide), if_neg (by decide), t_blameToken oS hb, bd_s]
        rfl
      rw [e1, bd_s, es, bd_s, es, bd_s, t_exS oS hb, bd_s, t_kwS (by omega) (by decide) (by decide) oS hb, bd_s, t_exS oS hb, bd_s]
      exact t_foldS (by omega) oS hb
    · have mS : Om n 0 (some 0) := ho.m.s (by omega)
      have ep : F_Mo_power u (mc M 0 (some 0)) J = some (nI 0, mc M 0 (some 0), J) := by
        unfold F_Mo_power F_Mo_power_52
        rw [m_needS (by decide) mS hM, bd_s, m_toldS (by omega) mS hM, bd_s, m_badS mS hM, bd_s, if_pos (by decide)]
      rw [m_w0 (by omega) (by omega) (by decide) hM h5, bd_s, if_neg (by decide), show (0 : Int32) = nI 0 from rfl, m_fail0 ho.m hM, bd_s]
      unfold F_Mo_fold_19
      rw [ep, bd_s, ep, bd_s, m_needS (by decide) mS hM, bd_s, m_badS mS hM, bd_s, if_pos (by decide), m_60S (by omega) mS hM]
  | true =>
    have hl := q_wd_le (show 0 ≤ n by omega) h5
    have hl5 : (pm_txt 5).length = 5 := rfl
    rw [hl5] at hl
    have o0 : Ok n 5 none := Ok_0 (by omega)
    rw [t_kw1 (by omega) (by decide) (by decide) (by decide) ho hb h5, bd_s, hl5, t_side (by omega) (show Ok n (0 + 5) none from o0) hb, bd_s]
    have o1 : Ok n (nnP b n (0 + 5) none) (sdE b n (0 + 5) none) := Ok_sd o0
    generalize hr1 : nnV b n (0 + 5) none = R
    generalize hp1 : nnP b n (0 + 5) none = p1 at *
    generalize he1 : sdE b n (0 + 5) none = e1 at *
    rw [t_side (by omega) o1 hb, bd_s]
    have o2 : Ok n (nnP b n p1 e1) (sdE b n p1 e1) := Ok_sd o1
    generalize hr2 : nnV b n p1 e1 = C
    generalize hp2 : nnP b n p1 e1 = p2 at *
    generalize he2 : sdE b n p1 e1 = e2 at *
    rw [t_expect o2 hb, bd_s]
    have o3 := Ok_ex (b := b) (c := 10) o2
    generalize hp3 : q_exP b n p2 e2 10 = p3 at *
    generalize he3 : q_exE b n p2 e2 10 = e3 at *
    have mdl0 : ∀ M, Mb b n M → (bd (F_Mo_isWord u 5 (mc M 0 none) J) fun r8 I8 J8 => if ¬ r8 = 0 then F_Mo_fold_19 u I8 J8 else bd (F_Mo_fail u (0 : Int32) I8 J8) fun _ I16 J16 => F_Mo_fold_19 u I16 J16) = bd (F_Mo_bad u (mc M p3 e3) J) fun r36 I36 J36 => if ¬ r36 = 0 then F_Mo_fold_60 u (nI R) (nI C) I36 J36 else bd (F_Mo_isWord u 6 I36 J36) fun r46 I46 J46 => if ¬ r46 = 0 then F_Mo_fold_60 u (nI R) (nI C) I46 J46 else bd (F_Mo_fail u (I46 120 4) I46 J46) fun _ I57 J57 => F_Mo_fold_60 u (nI R) (nI C) I57 J57 := by
      intro M hM
      rw [m_w1 (by omega) (by omega) (by decide) hM h5, bd_s, if_pos (by decide), hl5]
      unfold F_Mo_fold_19
      rw [m_power (by omega) (show Ok n (0 + 5) none from o0) hM, bd_s, hr1, hp1, he1, m_power (by omega) o1 hM, bd_s, hr2, hp2, he2, m_need (by decide) o2.m hM, bd_s, hp3, he3]
    cases e3 with
    | some z =>
      left
      refine ⟨z, I, p3, p3, o3, On.refl _, ?_, fun M hM => ⟨M, p3, On.refl _, ?_⟩⟩
      · rw [t_kwS (by omega) (by decide) (by decide) o3 hb, bd_s, t_exS o3 hb, bd_s]
        exact t_foldS (by omega) o3 hb
      · rw [mdl0 M hM, m_badS o3.m hM, bd_s, if_pos (by decide), m_60S (by omega) o3.m hM]
    | none =>
      have k2 := q_exE_ok he3
      subst k2
      obtain ⟨k1, vC⟩ := sd_ok he2
      subst k1
      obtain ⟨_, vR⟩ := sd_ok he1
      rw [hr1] at vR
      rw [hr2] at vC
      cases h6 : q_wd b n p3 (pm_txt 6) with
      | false =>
        obtain ⟨p', hp', ek⟩ := t_kw0 (u := u) (J := J) (f := nnF b n p1 none) (a := 6) (by omega) (by decide) (by decide) (by decide) o3 hb h6
        have oS : Ok n p' (some p3) := (Ok_0 hp').s o3.1
        have mS : Om n p3 (some p3) := o3.m.s o3.1
        left
        refine ⟨p3, I, p', p3, oS, On.refl _, ?_, fun M hM => ⟨M, p3, On.refl _, ?_⟩⟩
        · rw [ek, bd_s, t_exS oS hb, bd_s]
          exact t_foldS (by omega) oS hb
        · have h4 : (mc M p3 none) 120 4 = nI p3 := rfl
          rw [mdl0 M hM, m_bad0 o3.m hM, bd_s, if_neg (by decide), m_w0 (by omega) o3.1 (by decide) hM h6, bd_s, if_neg (by decide), h4, m_fail0 o3.m hM, bd_s, m_60S (by omega) mS hM]
      | true =>
        have hl2 := q_wd_le o3.1 h6
        have hl6 : (pm_txt 6).length = 4 := rfl
        rw [hl6] at hl2
        have o4 : Ok n (p3 + 4) none := Ok_0 (by omega)
        rw [t_kw1 (by omega) (by decide) (by decide) (by decide) o3 hb h6, bd_s, hl6, t_expect o4 hb, bd_s]
        have o5 := Ok_ex (b := b) (c := 32) o4
        have mdl1 : ∀ M, Mb b n M → (bd (F_Mo_isWord u 5 (mc M 0 none) J) fun r8 I8 J8 => if ¬ r8 = 0 then F_Mo_fold_19 u I8 J8 else bd (F_Mo_fail u (0 : Int32) I8 J8) fun _ I16 J16 => F_Mo_fold_19 u I16 J16) = F_Mo_fold_60 u (nI R) (nI C) (mc M (p3 + 4) none) J := by
          intro M hM
          rw [mdl0 M hM, m_bad0 o3.m hM, bd_s, if_neg (by decide), m_w1 (by omega) o3.1 (by decide) hM h6, bd_s, if_pos (by decide)]
          rfl
        generalize hp5 : q_exP b n (p3 + 4) none 32 = p5 at *
        cases he5 : q_exE b n (p3 + 4) none 32 with
        | some z =>
          rw [he5] at o5
          left
          refine ⟨z, I, p5, p3, o5, On.refl _, t_foldS (by omega) o5 hb, fun M hM => ⟨M, p5, On.refl _, ?_⟩⟩
          rw [mdl1 M hM]
          unfold F_Mo_fold_60
          rw [m_need (by decide) o4.m hM, bd_s, hp5, he5, m_badS o5.m hM, bd_s, if_neg (by decide)]
          unfold F_Mo_fold_81 F_Mo_fold_97
          obtain ⟨U, hU⟩ : ∃ q, u = q + 1 := ⟨u - 1, by omega⟩
          subst hU
          rw [m_badS o5.m hM, bd_s, if_neg (by decide), F_Mo_fold_102, m_badS o5.m hM, bd_s, if_pos (by decide), m_238S o5.m hM]
        | none =>
          rw [he5] at o5
          obtain ⟨a, ha3, hRa, hv1, hv2⟩ := hv_ex (u := u) (J := J) vR
          obtain ⟨c, hc3, hCc, hw1, hw2⟩ := hv_ex (u := u) (J := J) vC
          obtain ⟨I1, k1, pp, ff, ee, i1, i2, i3, i4, i5⟩ := fl_loop (u := u) (J := J) (R := R) (C := C) (by omega) (a + c) a c 0 p5 p3 u u a c I rfl (by omega) (by omega) (by omega) (by omega) hb o5.1 ⟨fun j hj => by omega, hRa, hCc⟩
          have hb1 : Tb b n I1 := hb.on i3 (by omega) (fun j => by omega)
          rw [hv1, bd_s, hw1, bd_s]
          unfold F_Fo_readFolds
          rw [show (0 : Int32) = nI 0 from rfl, i2, bd_s, t_expect i1 hb1, bd_s, t_finish (Ok_ex i1) hb1, bd_s]
          have o7 := Ok_fi (Ok_ex (b := b) (c := 10) i1)
          have mdl2 : ∀ M, Mb b n M → ∃ M1 p6 k2, Om n p6 ee ∧ (ee = none → p6 = pp ∧ k2 = 0 + (a + c) ∧ ∀ j, j < 0 + (a + c) → I1 30 j = M1 135 j) ∧ On (fun c _ => c = 135) M M1 ∧ (bd (F_Mo_isWord u 5 (mc M 0 none) J) fun r8 I8 J8 => if ¬ r8 = 0 then F_Mo_fold_19 u I8 J8 else bd (F_Mo_fail u (0 : Int32) I8 J8) fun _ I16 J16 => F_Mo_fold_19 u I16 J16) = F_Mo_fold_238 u (nI R) (nI C) (nI k2) (mc M1 p6 ee) J := by
            intro M hM
            obtain ⟨M1, p6, k2, j1, j2, j3, j4⟩ := i5 M (nI R) (nI C) hM (fun j hj => by omega)
            refine ⟨M1, p6, k2, j1, j2, j3, ?_⟩
            rw [mdl1 M hM]
            unfold F_Mo_fold_60
            rw [m_need (by decide) o4.m hM, bd_s, hp5, he5, m_bad0 o5.m hM, bd_s, if_pos rfl, hw2, bd_s]
            unfold F_Mo_fold_81 F_Mo_fold_97
            rw [m_bad0 o5.m hM, bd_s, if_pos rfl, hv2, bd_s]
            exact j4
          cases ee with
          | some z =>
            left
            rw [ex_some.1, ex_some.2, fi_some, t_irS i1 hb1, bd_s]
            refine ⟨z, I1, pp, ff, i1, i3, rfl, fun M hM => ?_⟩
            obtain ⟨M1, p6, k2, j1, j2, j3, j4⟩ := mdl2 M hM
            have hM1 : Mb b n M1 := hM.on j3 (by omega) (fun j => by omega)
            exact ⟨M1, p6, j3, Eq.trans j4 (m_238S j1 hM1)⟩
          | none =>
            obtain ⟨hk1, hvl⟩ := i4 rfl
            rw [Nat.zero_add] at hk1 hvl
            subst hk1
            have m238 : ∀ M, Mb b n M → ∃ M1, Mb b n M1 ∧ On (fun c _ => c = 135) M M1 ∧ (∀ j, j < a + c → I1 30 j = M1 135 j) ∧ (bd (F_Mo_isWord u 5 (mc M 0 none) J) fun r8 I8 J8 => if ¬ r8 = 0 then F_Mo_fold_19 u I8 J8 else bd (F_Mo_fail u (0 : Int32) I8 J8) fun _ I16 J16 => F_Mo_fold_19 u I16 J16) = F_Mo_fold_270 u (nI R) (nI C) (nI (a + c)) (mc M1 (q_exP b n pp none 10) (q_fi n (q_exP b n pp none 10) (q_exE b n pp none 10))) J := by
              intro M hM
              obtain ⟨M1, p6, k2, j1, j2, j3, j4⟩ := mdl2 M hM
              have hM1 : Mb b n M1 := hM.on j3 (by omega) (fun j => by omega)
              obtain ⟨q1, q2, q3⟩ := j2 rfl
              rw [Nat.zero_add] at q2 q3
              subst q1 q2
              refine ⟨M1, hM1, j3, q3, ?_⟩
              rw [j4]
              unfold F_Mo_fold_238
              rw [m_need (by decide) i1.m hM1, bd_s, m_fi (Ok_ex i1).m hM1]
            cases he7 : q_fi n (q_exP b n pp none 10) (q_exE b n pp none 10) with
            | some z =>
              rw [he7] at o7
              left
              rw [t_irS o7 hb1, bd_s]
              refine ⟨z, I1, _, ff, o7, i3, rfl, fun M hM => ?_⟩
              obtain ⟨M1, y1, y2, y3, y4⟩ := m238 M hM
              refine ⟨M1, q_exP b n pp none 10, y2, ?_⟩
              refine Eq.trans y4 ?_
              rw [he7]
              unfold F_Mo_fold_270
              rw [m_badS o7.m y1, bd_s, if_neg (by decide)]
              rfl
            | none =>
              rw [he7] at o7
              right
              rw [t_ir0 o7 hb1, bd_s]
              refine ⟨R, C, a, c, I1, q_exP b n pp none 10, ff, o7.1, ha3, hc3, hRa, hCc, i3, hvl, rfl, fun M hM => ?_⟩
              obtain ⟨M1, y1, y2, y3, y4⟩ := m238 M hM
              exact ⟨M1, y2, y3, Eq.trans y4 (by rw [he7])⟩
end FC
theorem m_305 {u : Nat} {J : pm_JJ} {m : Nat} (hm : m ≤ 6) : ∀ (d k N : Nat) (X : pm_II), k + d = m → d < N → (∀ j, j < k → X 131 j = X 135 j) → ∃ X2, F_Mo_fold_305 u N (nI m) (nI k) X J = (bd (F_Mo_turned u X2 J) fun _ I333 J333 => some (((I333 120 18) * (I333 120 19)), I333, J333)) ∧ (∀ j, j < m → X2 131 j = X 135 j) ∧ On (fun c _ => c = 131) X X2 := by
  intro d
  induction d with
  | zero =>
    intro k N X hk hN h
    obtain ⟨N, rfl⟩ : ∃ z, N = z + 1 := ⟨N - 1, by omega⟩
    refine ⟨X, ?_, fun j hj => h j (by omega), On.refl _⟩
    rw [F_Mo_fold_305, if_pos (by rw [nI_leI (by omega) (by omega)]; omega)]
  | succ d ih =>
    intro k N X hk hN h
    obtain ⟨N, rfl⟩ : ∃ z, N = z + 1 := ⟨N - 1, by omega⟩
    obtain ⟨X2, i1, i2, i3⟩ := ih (k + 1) N (pm_up X 131 k (X 135 k)) (by omega) (by omega) (fun j hj => by
      rw [ur, ur]
      by_cases q : j = k
      · subst q; rw [if_pos ⟨rfl, rfl⟩, if_neg (by omega)]
      · rw [if_neg (fun z => q z.2), if_neg (by omega)]; exact h j (by omega))
    refine ⟨X2, ?_, fun j hj => by rw [i2 j hj, ur, if_neg (by omega)], (On.up (S := fun c _ => c = 131) (On.refl _) rfl).trans i3⟩
    rw [F_Mo_fold_305, if_neg (by rw [nI_leI (by omega) (by omega)]; omega), vqT (show k < 6 by omega) (by omega), nI_clamp (by omega), nI_io1, nI_add]
    exact i1
theorem own120_2 : ∀ k, k < 29 → 18 ≤ k → own 120 k = 2 := by decide +kernel
theorem st_fold {u : Nat} {I : pm_II} {J : pm_JJ} (hu : 2000 ≤ u) (ht : Ptape I) (h2 : P2 I) : ∃ v I1 I2, F_Ph_fold u I J = some (v, I1, J) ∧ F_Mo_fold u I1 J = some (v, I2, J) ∧ Ptape I2 ∧ P2 I2 ∧ Fr 2 I I2 := by
  obtain ⟨b, n, hb, ht2, h121, hbb⟩ := ht.bn
  have hn := hb.2.2
  unfold F_Ph_fold F_Mo_fold
  rw [t_open, bd_s]
  obtain ⟨R0, C0, s, wy, cal, lf0, sk0, tn0, tb0, hq⟩ := h2
  rcases ft_text (u := u) (I := I) (J := J) hu hb with ⟨z, I1, pp, ff, q1, q2, q3, q4⟩ | ⟨R, C, a, c, I1, pp, ff, q1, qa, qc, qR, qC, q2, q3, q4, q5⟩
  · have hb1 : Tb b n I1 := hb.on q2 (by omega) (fun j => by omega)
    rw [q3, bd_s, t_close2 q1 hb1, bd_s]
    have hX2 : (tc (pm_up I1 17 1 0) pp ff (some z)) 120 2 = nI n := by
      have : I1 120 2 = nI n := by rw [q2 120 2 (by omega)]; exact ht2
      exact this
    have hM : Mb b n (TK (tc (pm_up I1 17 1 0) pp ff (some z)) n) := TK_Mb hn (fun j hj => by
      have : I1 121 j = b j := by rw [q2 121 j (by omega)]; exact h121 j hj
      exact this)
    obtain ⟨M1, p3, r1, r2⟩ := q4 _ hM
    have f1 : Fr 2 I M1 := by
      refine Fr.trans (Fr_TK (Fr_T3 (Fr.up (q2.fr (fun c k hc => Or.inr (own2 (by omega)))) (Or.inl rfl)))) (r1.fr (fun c k hc => Or.inr (own2 (by omega))))
    have g : ∀ c k, (29 ≤ c ∧ c ≤ 35 ∧ c ≠ 30) ∨ (132 ≤ c ∧ c ≤ 134) ∨ (c = 120 ∧ 18 ≤ k ∧ k ≤ 22) → (mc M1 p3 (some z)) c k = I c k := by
      intro c k hc
      have e1 : (mc M1 p3 (some z)) c k = M1 c k := by
        by_cases h : c = 120
        · subst h; exact mc_k (by omega) (by omega)
        · rw [mc_r h]
      rw [e1, r1 c k (by omega)]
      have e2 : (TK (tc (pm_up I1 17 1 0) pp ff (some z)) n) c k = I1 c k := by
        by_cases h : c = 120
        · subst h
          rw [tkk (by omega) (by omega), tc_r (by omega), ur, if_neg (by omega)]
        · rw [tkr h (by omega), tc_r (by omega), ur, if_neg (by omega)]
      rw [e2, q2 c k (by omega)]
    refine ⟨_, _, mc M1 p3 (some z), rfl, ?_, Ptape.zero ?_ ?_, ⟨R0, C0, s, wy, cal, lf0, sk0, tn0, tb0, ?_⟩, Fr_M2 f1⟩
    · rw [m_take (by omega) hn hX2, bd_s]
      exact r2
    · rw [mc_r (by omega), r1 17 1 (by omega)]; rfl
    · rw [mc_k (by omega) (by omega), r1 120 2 (by omega)]; rfl
    · obtain ⟨x1, ⟨y1, y2, y3, y4, y5⟩, ⟨z1, z2, z3, z4, z5⟩, w1, w2, w3⟩ := hq
      refine ⟨x1, ⟨?_, ?_, ?_, ?_, ?_⟩, ⟨?_, ?_, ?_, ?_, ?_⟩, fun p hp => ?_, fun k hk => ?_, fun r c hr hc => ?_⟩
      · rw [g _ _ (by omega)]; exact y1
      · rw [g _ _ (by omega)]; exact y2
      · rw [g _ _ (by omega)]; exact y3
      · rw [g _ _ (by omega)]; exact y4
      · rw [g _ _ (by omega)]; exact y5
      · rw [g _ _ (by omega)]; exact z1
      · rw [g _ _ (by omega)]; exact z2
      · rw [g _ _ (by omega)]; exact z3
      · rw [g _ _ (by omega)]; exact z4
      · rw [g _ _ (by omega)]; exact z5
      · rw [g 33 _ (by omega), g 34 _ (by omega), g 35 _ (by omega)]; exact w1 p hp
      · rw [g 31 _ (by omega)]; exact w2 k hk
      · rw [g 132 _ (by omega), g 133 _ (by omega), g 134 _ (by omega)]; exact w3 r c hr hc
  · have hR : 1 ≤ R ∧ R ≤ 8 := by
      rw [qR]
      exact ⟨Nat.pow_pos (by omega), Nat.le_trans (Nat.pow_le_pow_right (by omega) qa) (by decide)⟩
    have hC : 1 ≤ C ∧ C ≤ 8 := by
      rw [qC]
      exact ⟨Nat.pow_pos (by omega), Nat.le_trans (Nat.pow_le_pow_right (by omega) qc) (by decide)⟩
    have h64 := rc_le hR.2 hC.2
    have h2m : 2 ^ (a + c) = R * C := by rw [Nat.pow_add, qR, qC]
    have hv : vL (I1 30) R C (a + c) := ⟨q3.1, q3.2.1, q3.2.2⟩
    have hb1 : Tb b n I1 := hb.on q2 (by omega) (fun j => by omega)
    obtain ⟨I2, k1, k2, k3, k4, k5⟩ := c_foldSheet (u := u) (J := J) (L := I1 30) (I := tc I1 pp ff none) (by omega) hR hC (show a + c ≤ 6 by omega) h2m hv (fun j hj => by rw [tc_r (by omega)])
    have o17 : ∀ k, I2 17 k = (tc I1 pp ff none) 17 k := fun k => k5 17 k (by omega)
    have e2 : I2 = tc I2 pp ff none := by
      have := T3_id I2
      rw [o17 2, o17 3, o17 4] at this
      exact this.symm
    have hb2 : Tb b n I2 := by
      refine ⟨fun j hj => ?_, ?_, hn⟩
      · rw [k5 18 j (by omega), tc_r (by omega)]; exact hb1.1 j hj
      · rw [o17 1]; exact hb1.2.1
    rw [q4, k1, bd_s]
    unfold F_Fo_leaves
    rw [bd_s, bd_s, k2, k3, pk_mul, e2, t_close2 (Ok_0 q1) hb2, bd_s]
    have hX2 : (tc (pm_up I2 17 1 0) pp ff none) 120 2 = nI n := by
      have : I2 120 2 = nI n := by rw [k5 120 2 (by omega), tc_r (by omega), q2 120 2 (by omega)]; exact ht2
      exact this
    have hM : Mb b n (TK (tc (pm_up I2 17 1 0) pp ff none) n) := TK_Mb hn (fun j hj => by
      have : I2 121 j = b j := by rw [k5 121 j (by omega), tc_r (by omega), q2 121 j (by omega)]; exact h121 j hj
      exact this)
    obtain ⟨M1, r1, r2, r3⟩ := q5 _ hM
    have hM1 : Mb b n M1 := hM.on r1 (by omega) (fun j => by omega)
    generalize hM2 : pm_up (pm_up (pm_up M1 120 18 (nI R)) 120 19 (nI C)) 120 27 (nI (a + c)) = M2
    have oM2 : On (fun c k => c = 120 ∧ (k = 18 ∨ k = 19 ∨ k = 27)) M1 M2 := by
      rw [← hM2]
      refine On.up (On.up (On.up (On.refl _) ?_) ?_) ?_ <;> omega
    obtain ⟨M3, s1, s2, s3⟩ := m_305 (u := u) (J := J) (m := a + c) (by omega) (a + c) 0 u (mc M2 pp none) (by omega) (by omega) (fun j hj => by omega)
    have e18 : M3 120 18 = nI R := by rw [s3 120 18 (by omega), mc_k (by omega) (by omega), ← hM2]; rfl
    have e19 : M3 120 19 = nI C := by rw [s3 120 19 (by omega), mc_k (by omega) (by omega), ← hM2]; rfl
    have e27 : M3 120 27 = nI (a + c) := by rw [s3 120 27 (by omega), mc_k (by omega) (by omega), ← hM2]; rfl
    obtain ⟨M4, t1, t2, t3⟩ := m_turned (u := u) (J := J) (L := I1 30) (I := M3) (by omega) hR hC (show a + c ≤ 6 by omega) hv e18 e19 e27 (fun j hj => by
      rw [s2 j hj, mc_r (by omega), oM2 135 j (by omega)]; exact (r2 j hj).symm)
    have mdl : F_Mo_fold u (tc (pm_up I2 17 1 0) pp ff none) J = some (nI (R * C), M4, J) := by
      unfold F_Mo_fold
      rw [m_take (by omega) hn hX2, bd_s]
      refine r3.trans ?_
      unfold F_Mo_fold_270
      rw [m_bad0 (Ok_0 q1).m hM1, bd_s, if_pos rfl, M2_k (by omega) (by omega), M2_k (by omega) (by omega), M2_k (by omega) (by omega), hM2]
      refine s1.trans ?_
      rw [t1, bd_s, t3 120 18 (by omega), t3 120 19 (by omega), e18, e19, pk_mul]
    -- what was not touched
    have lo4 : ∀ c k, c < 120 → c ≠ 17 → M4 c k = I2 c k := by
      intro c k hc h17
      rw [t3 c k (by omega), s3 c k (by omega), mc_r (by omega), oM2 c k (by omega), r1 c k (by omega), tkr (by omega) (by omega), tc_r h17, ur, if_neg (by omega)]
    have hi4 : ∀ k, k ≠ 2 → k ≠ 3 → k ≠ 4 → k ≠ 5 → k ≠ 18 → k ≠ 19 → k ≠ 27 → M4 120 k = I 120 k := by
      intro k x2 x3 x4 x5 x18 x19 x27
      rw [t3 120 k (by omega), s3 120 k (by omega), mc_k (by omega) (by omega), oM2 120 k (by omega), r1 120 k (by omega), tkk (by omega) (by omega), tc_r (by omega), ur, if_neg (by omega), k5 120 k (by omega), tc_r (by omega), q2 120 k (by omega)]
    have i29 : ∀ k, 11 ≤ k → I2 29 k = I 29 k := fun k hk => by rw [k5 29 k (by omega), tc_r (by omega), q2 29 k (by omega)]
    obtain ⟨x1, ⟨y1, y2, y3, y4, y5⟩, ⟨z1, z2, z3, z4, z5⟩, w1, w2, w3⟩ := hq
    have hRC : 1 ≤ R * C := Nat.mul_pos hR.1 hC.1
    have hinj : injP (fun p => (SS (I1 30) R C (a + c) p).2.2.1) (R * C) := by
      intro p q hp hq e
      have h1 := (k4 p hp).1
      have h2 := (k4 q hq).1
      have e' : (SS (I1 30) R C (a + c) p).2.2.1 = (SS (I1 30) R C (a + c) q).2.2.1 := e
      rw [e', h2, nI_eq (by omega) (by omega)] at h1
      exact h1.symm
    have hsur := onto_ex (inj_onto (f := fun p => (SS (I1 30) R C (a + c) p).2.2.1) (n := R * C) (fun k hk => (k4 k hk).2.1) hinj)
    refine ⟨nI (R * C), _, M4, rfl, mdl, Ptape.zero ?_ ?_, ⟨R, C, s, wy, cal, fun p => (SS (I1 30) R C (a + c) p).2.2.1, fun k => (I2 31 k).toNatClampNeg, fun p => (SS (I1 30) R C (a + c) p).2.2.2.1, fun p => (SS (I1 30) R C (a + c) p).2.2.2.2, ⟨by omega, ⟨?_, ?_, ?_, ?_, ?_⟩, ⟨?_, ?_, ?_, ?_, ?_⟩, fun p hp => ?_, fun k hk => ?_, fun r c hr hc => ?_⟩⟩, ?_⟩
    · rw [t3 17 1 (by omega), s3 17 1 (by omega), mc_r (by omega), oM2 17 1 (by omega), r1 17 1 (by omega)]; rfl
    · rw [t3 120 2 (by omega), s3 120 2 (by omega), mc_k (by omega) (by omega), oM2 120 2 (by omega), r1 120 2 (by omega)]; rfl
    · rw [lo4 29 6 (by omega) (by omega)]; exact k2
    · rw [lo4 29 7 (by omega) (by omega)]; exact k3
    · rw [lo4 29 11 (by omega) (by omega), i29 11 (by omega)]; exact y3
    · rw [lo4 29 12 (by omega) (by omega), i29 12 (by omega)]; exact y4
    · rw [lo4 29 13 (by omega) (by omega), i29 13 (by omega)]; exact y5
    · rw [t3 120 18 (by omega)]; exact e18
    · rw [t3 120 19 (by omega)]; exact e19
    · rw [hi4 20 (by omega) (by omega) (by omega) (by omega) (by omega) (by omega) (by omega)]; exact z3
    · rw [hi4 21 (by omega) (by omega) (by omega) (by omega) (by omega) (by omega) (by omega)]; exact z4
    · rw [hi4 22 (by omega) (by omega) (by omega) (by omega) (by omega) (by omega) (by omega)]; exact z5
    · obtain ⟨b1, b2, b3, b4, b5⟩ := k4 p hp
      rw [lo4 33 p (by omega) (by omega), lo4 34 p (by omega) (by omega), lo4 35 p (by omega) (by omega)]
      refine ⟨b3, b4, b5, b2, ?_⟩
      show (I2 31 (SS (I1 30) R C (a + c) p).2.2.1).toNatClampNeg = p
      rw [b1, nI_clamp (by omega)]
    · obtain ⟨p, hp, e⟩ := hsur k hk
      have e' : (SS (I1 30) R C (a + c) p).2.2.1 = k := e
      obtain ⟨b1, b2, b3, b4, b5⟩ := k4 p hp
      rw [e'] at b1
      rw [lo4 31 k (by omega) (by omega)]
      dsimp only
      rw [b1, nI_clamp (by omega)]
      exact ⟨rfl, hp, e'⟩
    · exact t2 r c hr hc
    · have g1 : Fr 2 I I2 := Fr.trans (Fr_T3 (q2.fr (fun c k hc => Or.inr (own2 (by omega))))) (k5.fr (fun c k hc => Or.inr (own2 (by omega))))
      have g2 : Fr 2 I M1 := Fr.trans (Fr_TK (Fr_T3 (Fr.up g1 (Or.inl rfl)))) (r1.fr (fun c k hc => Or.inr (own2 (by omega))))
      have g3 : Fr 2 I M2 := Fr.trans g2 (oM2.fr (fun c k hc => by obtain ⟨rfl, h⟩ := hc; exact Or.inr (own120_2 k (by omega) (by omega))))
      exact Fr.trans (Fr.trans (Fr_M2 g3) (s3.fr (fun c k hc => Or.inr (own2 (by omega))))) (t3.fr (fun c k hc => Or.inr (own2 (by omega))))
