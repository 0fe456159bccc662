/-! ===== rolls: the lines of the text ===== -/
section RLoop
variable {u : Nat} {J : pm_JJ} {b : Nat → Int32} {n : Nat}
theorem m_l97 {K52 : Int32 → Int32 → Int32 → Int32 → pm_II → pm_JJ → Option (Int32 × pm_II × pm_JJ)} {x2 : Int32} {ro i p al : Nat} {wd : Nat → Nat} {e : Option Nat} {M : pm_II} (hu : 20 ≤ u) (hi : i < 4) (h16 : al ≤ 16) (hwd : ∀ k, k < i → wd k < 2 ^ 30) (ho : Ok n p e) (hb : Mb b n M) (h125 : ∀ k, k < i → M 125 k = nI (wd k)) : F_Mo_cut_97 u K52 (nI ro) x2 (nI i) (nI al) (mc M p e) J = F_Mo_cut_206 u K52 (nI ro) x2 (nI i) (nI (al + nnV b n (nnP b n p e) (dup wd (nnV b n p e) (nnF b n p e) i 0 (nnE b n p e 10 (nI ro))))) (nI (nnV b n p e)) (nI (nnV b n (nnP b n p e) (dup wd (nnV b n p e) (nnF b n p e) i 0 (nnE b n p e 10 (nI ro))))) (mc M (nnP b n (nnP b n p e) (dup wd (nnV b n p e) (nnF b n p e) i 0 (nnE b n p e 10 (nI ro)))) (nnE b n (nnP b n p e) (dup wd (nnV b n p e) (nnF b n p e) i 0 (nnE b n p e 10 (nI ro))) 1 (nI (min 9 (16 - al))))) J := by
  unfold F_Mo_cut_97
  have hV : nnV b n p e < 1000000 := nnV_lt
  have h4 : (mc M (q_exP b n p e 32) (q_exE b n p e 32)) 120 4 = nI (nnF b n p e) := rfl
  have hd : Ok n (nnP b n p e) (dup wd (nnV b n p e) (nnF b n p e) i 0 (nnE b n p e 10 (nI ro))) := dup_le (nnF_le ho) i 0 _ (Ok_nn ho)
  rw [m_need (by decide) ho.m hb, bd_s, m_told (by omega) (Om_ex ho.m) hb, bd_s, h4]
  have h1 := m_l121 (u := u) (J := J) (K52 := K52) (x1 := nI ro) (x2 := x2) (x4 := nI al) (p := nnP b n p e) (f := nnF b n p e) (V := nnV b n p e) (wd := wd) hi (nnF_le ho) (by omega) hwd hb h125 i 0 u (nnE b n p e 10 (nI ro)) (by omega) (by omega) (Ok_nn ho).m
  refine h1.trans ?_
  exact m_l158 (by omega) hi h16 hd.m hb
theorem m_l97S {K52 : Int32 → Int32 → Int32 → Int32 → pm_II → pm_JJ → Option (Int32 × pm_II × pm_JJ)} {x1 x2 : Int32} {i p al y : Nat} {M : pm_II} (hu : 20 ≤ u) (hi : i ≤ 4) (ho : Om n p (some y)) (hb : Mb b n M) : F_Mo_cut_97 u K52 x1 x2 (nI i) (nI al) (mc M p (some y)) J = K52 x1 x2 (nI i) (nI al) (mc M p (some y)) J := by
  unfold F_Mo_cut_97
  have h158 : ∀ x6, F_Mo_cut_158 u K52 x1 x2 (nI i) (nI al) x6 (mc M p (some y)) J = K52 x1 x2 (nI i) (nI al) (mc M p (some y)) J := by
    intro x6
    unfold F_Mo_cut_158 F_Mo_cut_206
    rw [m_needS (by decide) ho hb, bd_s, m_toldS (by omega) ho hb, bd_s, m_badS ho hb, bd_s, if_pos (by decide), m_needS (by decide) ho hb, bd_s, m_badS ho hb, bd_s, if_neg (by decide), nI_add, Nat.add_zero]
  obtain ⟨N, hN⟩ : ∃ z, u = z + 1 := ⟨u - 1, by omega⟩
  rw [m_needS (by decide) ho hb, bd_s, m_toldS (by omega) ho hb, bd_s]
  have e : ∀ a c d, F_Mo_cut_121 u K52 u x1 x2 (nI i) (nI al) a c d (mc M p (some y)) J = F_Mo_cut_121 u K52 (N + 1) x1 x2 (nI i) (nI al) a c d (mc M p (some y)) J := fun a c d => by rw [← hN]
  rw [e, F_Mo_cut_121]
  split
  · exact h158 _
  · rw [m_badS ho hb, bd_s, if_pos (by decide)]
    exact h158 _
def DRw (ro i : Nat) (wd ww : Nat → Nat) : Prop := (∀ j, j < i → (10 ≤ wd j ∧ wd j ≤ ro) ∧ 1 ≤ ww j ∧ ww j ≤ 9) ∧ sumN ww i ≤ 16
theorem m_52e {x1 x2 x3 x4 : Int32} {p y N : Nat} {M : pm_II} (ho : Om n p (some y)) (hb : Mb b n M) : F_Mo_cut_52 u (N + 1) x1 x2 x3 x4 (mc M p (some y)) J = F_Mo_cut_244 u x1 x2 x3 (mc M p (some y)) J := by
  rw [F_Mo_cut_52, m_badS ho hb, bd_s, if_pos (by decide)]
/-- the end of the class's reading -/
def T75 (u : Nat) (ro kn K : Nat) (X : pm_II) (p f : Nat) (e : Option Nat) (J : pm_JJ) : Option (Int32 × pm_II × pm_JJ) := match e with
  | some y => some (-1, tc X p f (some y), J)
  | none => bd (F_Ro_adopt u (pm_up (pm_up (pm_up (tc X p f none) 19 9 (nI ro)) 19 10 (nI kn)) 19 11 (nI K)) J) fun _ I105 J105 => bd (F_Ro_countFewest u I105 J105) fun _ I109 J109 => bd (F_Ro_makePlan u I109 J109) fun _ I113 J113 => some ((I113 19 12), I113, J113)
theorem c_75 {ro kn K p f : Nat} {e : Option Nat} {X : pm_II} (ho : Ok n p e) (hb : Tb b n X) : F_Ro_takeText_75 u (nI ro) (nI kn) (nI K) (tc X p f e) J = T75 u ro kn K X p f (q_fi n p e) J := by
  unfold F_Ro_takeText_75
  rw [t_finish ho hb, bd_s, t_isRight (Ok_fi ho) hb, bd_s]
  cases h : q_fi n p e with
  | some y => rw [if_neg (by simp [b2i])]; rfl
  | none => rw [if_pos (by simp [b2i])]; rfl
theorem fi_none {p : Nat} (h : q_fi n p none = none) (hp : p ≤ n) : p = n := by
  unfold q_fi at h
  by_cases c : p < n
  · rw [if_pos c] at h; cases h
  · omega
theorem cutl_step {ro i p f al : Nat} {wd : Nat → Nat} {X : pm_II} (hu : 2000 ≤ u) (hro : ro < 2 ^ 30) (hi : i < 4) (h16 : al ≤ 16) (hwd : ∀ k, k < i → wd k < 2 ^ 30) (hp : p ≤ n) (hb : Tb b n X) (h22 : ∀ k, k < i → X 22 k = nI (wd k)) : ∃ V1 V2 P4 F4 E4, F_Ro_readLine u (nI i) (nI ro) (nI (16 - al)) (tc X p f none) J = some ((), tc (pm_up (pm_up X 22 i (nI V1)) 23 i (nI V2)) P4 F4 E4, J) ∧ Ok n P4 E4 ∧ (V1 < 1000000 ∧ V2 < 1000000) ∧ (E4 = none → (10 ≤ V1 ∧ V1 ≤ ro) ∧ (1 ≤ V2 ∧ V2 ≤ 9) ∧ al + V2 ≤ 16) ∧ ∀ (M : pm_II) (x2 : Int32) (K52 : Int32 → Int32 → Int32 → Int32 → pm_II → pm_JJ → Option (Int32 × pm_II × pm_JJ)), Mb b n M → (∀ k, k < i → M 125 k = nI (wd k)) → (E4 = none → F_Mo_cut_74 u K52 (nI ro) x2 (nI i) (nI al) (mc M p none) J = K52 (nI ro) x2 (nI (i + 1)) (nI (al + V2)) (mc (pm_up (pm_up M 125 i (nI V1)) 126 i (nI V2)) P4 none) J) ∧ ∀ y, E4 = some y → ∃ p3 al2, Om n p3 (some y) ∧ F_Mo_cut_74 u K52 (nI ro) x2 (nI i) (nI al) (mc M p none) J = K52 (nI ro) x2 (nI i) (nI al2) (mc M p3 (some y)) J := by
  obtain ⟨p1, ho, hp3, hc⟩ := rl_line (u := u) (J := J) (f := f) (fr := 16 - al) (ro := ro) hu hi (by omega) hwd hp hb h22
  have hd : Ok n (nnP b n p1 (kwP b n p)) (dup wd (nnV b n p1 (kwP b n p)) (nnF b n p1 (kwP b n p)) i 0 (nnE b n p1 (kwP b n p) 10 (nI ro))) := dup_le (nnF_le ho) i 0 _ (Ok_nn ho)
  refine ⟨_, _, _, _, _, hc, Ok_ex (Ok_nn hd), ⟨nnV_lt, nnV_lt⟩, fun hE => ?_, fun M x2 K52 hM h125 => ?_⟩
  · have h1 := q_exE_ok hE
    obtain ⟨h2, h3, h4⟩ := nnE_ok h1
    have h5 : nnE b n p1 (kwP b n p) 10 (nI ro) = none := by
      cases hh : nnE b n p1 (kwP b n p) 10 (nI ro) with
      | none => rfl
      | some y => rw [hh, dup_some] at h2; cases h2
    obtain ⟨h6, h7, h8⟩ := nnE_ok h5
    have v1 : nnV b n p1 (kwP b n p) < 1000000 := nnV_lt
    have v2 : nnV b n (nnP b n p1 (kwP b n p)) (dup wd (nnV b n p1 (kwP b n p)) (nnF b n p1 (kwP b n p)) i 0 (nnE b n p1 (kwP b n p) 10 (nI ro))) < 1000000 := nnV_lt
    rw [nl_1, nI_leI (by omega) (by omega)] at h3
    rw [nI_leI (by omega) (by omega)] at h4
    rw [nl_10, nI_leI (by omega) (by omega)] at h7
    rw [nI_leI (by omega) (by omega)] at h8
    exact ⟨⟨h7, h8⟩, ⟨h3, by omega⟩, by omega⟩
  · have h74 : ∃ pm, Ok n pm (kwP b n p) ∧ (kwP b n p = none → pm = p1) ∧ F_Mo_cut_74 u K52 (nI ro) x2 (nI i) (nI al) (mc M p none) J = F_Mo_cut_97 u K52 (nI ro) x2 (nI i) (nI al) (mc M pm (kwP b n p)) J := by
      unfold F_Mo_cut_74 F_Mo_cut_89
      rw [if_neg (by rw [show (4 : Int32) = nI 4 from rfl, nI_eq (by omega) (by omega)]; omega)]
      unfold kwP at hp3 ⊢
      cases hw : q_wd b n p (pm_txt 4) with
      | true =>
        have hl := q_wd_le hp hw
        rw [hw] at hp3
        have e3 := hp3 rfl
        refine ⟨p1, by rw [e3]; exact Ok_0 (by have : (pm_txt 4).length = 3 := rfl; omega), fun _ => rfl, ?_⟩
        rw [m_w1 (by omega) hp (by decide) hM hw, bd_s, if_pos (by decide), e3]
        rfl
      | false =>
        refine ⟨p, (Ok_0 hp).s hp, (fun z => by cases z), ?_⟩
        have h4 : (mc M p none) 120 4 = nI p := rfl
        rw [m_w0 (by omega) hp (by decide) hM hw, bd_s, if_neg (by decide), h4, m_fail0 (Ok_0 hp).m hM, bd_s]
        rfl
    obtain ⟨pm, hom, hpm, h74⟩ := h74
    rw [h74]
    cases hk : kwP b n p with
    | some y0 =>
      rw [hk] at hom ho
      have hns := nn_some (b := b) (n := n) (p := p1) (x := y0) (lo := 10) (hi := nI ro)
      rw [hns.2.1, dup_some]
      have hns2 := nn_some (b := b) (n := n) (p := nnP b n p1 (some y0)) (x := y0) (lo := 1) (hi := nI (min 9 (16 - al)))
      rw [hns2.2.1, ex_some.2]
      refine ⟨(fun z => by cases z), fun y hy => ?_⟩
      cases hy
      exact ⟨pm, al, hom.m, m_l97S (by omega) (by omega) hom.m hM⟩
    | none =>
      have e := hpm hk
      subst e
      rw [hk] at hom
      have hd2 : Ok n (nnP b n pm none) (dup wd (nnV b n pm none) (nnF b n pm none) i 0 (nnE b n pm none 10 (nI ro))) := dup_le (nnF_le hom) i 0 _ (Ok_nn hom)
      rw [m_l97 (wd := wd) (by omega) hi h16 hwd hom hM h125, m_l206 hi (Ok_nn hd2).m hM]
      refine ⟨fun hE => ?_, fun y hy => ?_⟩
      · rw [if_pos hE, hE]
      · have ho4 := (Ok_ex (b := b) (c := 10) (Ok_nn (b := b) (lo := 1) (hi := nI (min 9 (16 - al))) hd2)).m
        rw [hy] at ho4
        rw [if_neg (by rw [hy]; simp), hy]
        exact ⟨_, _, ho4, rfl⟩
theorem cut_loop {ro kn : Nat} (hu : 2000 ≤ u) (hro : ro < 2 ^ 30) : ∀ (d i p f al N N2 : Nat) (X : pm_II) (wd ww : Nat → Nat), i + d = 3 → d + 1 < N → d + 3 < N2 → p ≤ n → (i = 0 ∨ p < n) → Tb b n X → (∀ j, j < i → X 22 j = nI (wd j) ∧ X 23 j = nI (ww j)) → DRw ro i wd ww → al = sumN ww i → ∃ X2 pp ff ee K wd2 ww2, F_Ro_takeText_37 u N (nI ro) (nI kn) (nI i) (nI (16 - al)) (tc X p f none) J = T75 u ro kn K X2 pp ff ee J ∧ Ok n pp ee ∧ On (fun c _ => c = 22 ∨ c = 23) X X2 ∧ (ee = none → 1 ≤ K ∧ K ≤ 4 ∧ DRw ro K wd2 ww2 ∧ ∀ j, j < K → X2 22 j = nI (wd2 j) ∧ X2 23 j = nI (ww2 j)) ∧ ∀ M : pm_II, Mb b n M → (∀ j, j < i → M 125 j = nI (wd j) ∧ M 126 j = nI (ww j)) → ∃ M2 p3 K2, F_Mo_cut_52 u N2 (nI ro) (nI kn) (nI i) (nI al) (mc M p none) J = F_Mo_cut_244 u (nI ro) (nI kn) (nI K2) (mc M2 p3 ee) J ∧ Om n p3 ee ∧ On (fun c _ => c = 125 ∨ c = 126) M M2 ∧ (ee = none → K2 = K ∧ ∀ j, j < K → M2 125 j = nI (wd2 j) ∧ M2 126 j = nI (ww2 j)) := by
  intro d
  induction d with
  | zero =>
    intro i p f al N N2 X wd ww hi hN hN2 hp hip hb hX hD hal
    obtain ⟨N, rfl⟩ : ∃ z, N = z + 1 := ⟨N - 1, by omega⟩
    obtain ⟨N2, rfl⟩ : ∃ z, N2 = z + 3 := ⟨N2 - 3, by omega⟩
    have h16 : al ≤ 16 := by rw [hal]; exact hD.2
    have hn := hb.2.2
    obtain rfl : i = 3 := by omega
    obtain ⟨V1, V2, P4, F4, E4, s1, s2, ⟨s3, s3'⟩, s4, s5⟩ := cutl_step (u := u) (J := J) (f := f) (wd := wd) hu hro (show 3 < 4 by omega) h16 (fun k hk => by have := (hD.1 k hk).1; omega) hp hb (fun k hk => (hX k hk).1)
    have hb2 : Tb b n (pm_up (pm_up X 22 3 (nI V1)) 23 3 (nI V2)) := (hb.put (by decide) (by decide)).put (by decide) (by decide)
    have hcls : F_Ro_takeText_37 u (N + 1) (nI ro) (nI kn) (nI 3) (nI (16 - al)) (tc X p f none) J = T75 u ro kn 4 (pm_up (pm_up X 22 3 (nI V1)) 23 3 (nI V2)) P4 F4 (q_fi n P4 E4) J := by
      rw [F_Ro_takeText_37, s1, bd_s, vqT (show 3 < 4 by omega) (by omega), cond_true, if_pos (by decide)]
      exact c_75 s2 hb2
    refine ⟨_, _, _, _, 4, fun j => if j = 3 then V1 else wd j, fun j => if j = 3 then V2 else ww j, hcls, Ok_fi s2, On.up (On.up (On.refl _) (Or.inl rfl)) (Or.inr rfl), fun hee => ?_, fun M hM hMj => ?_⟩
    · have hE : E4 = none := by
        cases E4 with
        | none => rfl
        | some y => rw [fi_some] at hee; cases hee
      obtain ⟨t1, t2, t3⟩ := s4 hE
      refine ⟨by omega, by omega, ⟨fun j hj => ?_, ?_⟩, fun j hj => ?_⟩
      · dsimp only
        by_cases q : j = 3
        · rw [if_pos q, if_pos q]; exact ⟨t1, t2⟩
        · rw [if_neg q, if_neg q]; exact hD.1 j (by omega)
      · show sumN (fun j => if j = 3 then V2 else ww j) 3 + (if 3 = 3 then V2 else ww 3) ≤ 16
        rw [sumN_c (h := ww) 3 (fun j hj => by rw [if_neg (by omega)]), if_pos rfl, ← hal]
        exact t3
      · simp only [ur]
        by_cases q : j = 3
        · simp [q]
        · simp [q]
          exact hX j (by omega)
    · obtain ⟨m1, m2⟩ := s5 M (nI kn) (F_Mo_cut_52 u (N2 + 2)) hM (fun k hk => (hMj k hk).1)
      have hpn : p < n := by omega
      have h3 : (mc M p none) 120 3 = nI n := hM.2.1
      have h4 : (mc M p none) 120 4 = nI p := rfl
      have h52 : F_Mo_cut_52 u (N2 + 2 + 1) (nI ro) (nI kn) (nI 3) (nI al) (mc M p none) J = F_Mo_cut_74 u (F_Mo_cut_52 u (N2 + 2)) (nI ro) (nI kn) (nI 3) (nI al) (mc M p none) J := by
        rw [F_Mo_cut_52, m_bad0 (Ok_0 hp).m hM, bd_s, if_neg (by decide), h3, h4, if_pos (by rw [nI_ltI (by omega) (by omega)]; exact hpn)]
      cases hE : E4 with
      | some y =>
        obtain ⟨p3, al2, o3, k3⟩ := m2 y hE
        refine ⟨M, p3, 3, ?_, ?_, On.refl _, fun z => ?_⟩
        · rw [h52, k3, m_52e o3 hM, fi_some]
        · rw [fi_some]; exact o3
        · rw [fi_some] at z; cases z
      | none =>
        have m1 := m1 hE
        rw [hE] at s2
        have hM2 : Mb b n (pm_up (pm_up M 125 3 (nI V1)) 126 3 (nI V2)) := (hM.put (by decide) (by decide)).put (by decide) (by decide)
        have h3' : (mc (pm_up (pm_up M 125 3 (nI V1)) 126 3 (nI V2)) P4 none) 120 3 = nI n := hM2.2.1
        have h4' : (mc (pm_up (pm_up M 125 3 (nI V1)) 126 3 (nI V2)) P4 none) 120 4 = nI P4 := rfl
        have hP4 := s2.1
        have hrow : ∀ j, j < 4 → (pm_up (pm_up M 125 3 (nI V1)) 126 3 (nI V2)) 125 j = nI (if j = 3 then V1 else wd j) ∧ (pm_up (pm_up M 125 3 (nI V1)) 126 3 (nI V2)) 126 j = nI (if j = 3 then V2 else ww j) := fun j hj => by
          simp only [ur]
          by_cases q : j = 3
          · simp [q]
          · simp [q]
            exact hMj j (by omega)
        have oM : On (fun c _ => c = 125 ∨ c = 126) M (pm_up (pm_up M 125 3 (nI V1)) 126 3 (nI V2)) := On.up (On.up (On.refl _) (Or.inl rfl)) (Or.inr rfl)
        by_cases c : P4 < n
        · have ef : q_fi n P4 none = some P4 := by unfold q_fi; rw [if_pos c]; rfl
          refine ⟨_, P4, 4, ?_, ?_, oM, fun z => ?_⟩
          · rw [h52, m1, F_Mo_cut_52, m_bad0 s2.m hM2, bd_s, if_neg (by decide), h3', h4', if_pos (by rw [nI_ltI (by omega) (by omega)]; exact c)]
            unfold F_Mo_cut_74 F_Mo_cut_89
            rw [if_pos (by decide), h4', m_fail0 s2.m hM2, bd_s, m_l97S (by omega) (by omega) (s2.s (by omega)).m hM2, m_52e (s2.s (by omega)).m hM2, ef]
          · rw [ef]; exact (s2.s (by omega)).m
          · rw [ef] at z; cases z
        · have ef : q_fi n P4 none = none := by unfold q_fi; rw [if_neg c]
          refine ⟨_, P4, 4, ?_, ?_, oM, fun z => ⟨rfl, hrow⟩⟩
          · rw [h52, m1, F_Mo_cut_52, m_bad0 s2.m hM2, bd_s, if_neg (by decide), h3', h4', if_neg (by rw [nI_ltI (by omega) (by omega)]; exact c), if_pos (by decide), ef]
          · rw [ef]; exact s2.m
  | succ d ih =>
    intro i p f al N N2 X wd ww hi hN hN2 hp hip hb hX hD hal
    obtain ⟨N, rfl⟩ : ∃ z, N = z + 1 := ⟨N - 1, by omega⟩
    obtain ⟨N2, rfl⟩ : ∃ z, N2 = z + 2 := ⟨N2 - 2, by omega⟩
    have h16 : al ≤ 16 := by rw [hal]; exact hD.2
    have hn := hb.2.2
    obtain ⟨V1, V2, P4, F4, E4, s1, s2, ⟨s3, s3'⟩, s4, s5⟩ := cutl_step (u := u) (J := J) (f := f) (wd := wd) hu hro (show i < 4 by omega) h16 (fun k hk => by have := (hD.1 k hk).1; omega) hp hb (fun k hk => (hX k hk).1)
    have hb2 : Tb b n (pm_up (pm_up X 22 i (nI V1)) 23 i (nI V2)) := (hb.put (by decide) (by decide)).put (by decide) (by decide)
    have oX : On (fun c _ => c = 22 ∨ c = 23) X (pm_up (pm_up X 22 i (nI V1)) 23 i (nI V2)) := On.up (On.up (On.refl _) (Or.inl rfl)) (Or.inr rfl)
    have hXr : ∀ j, j < i + 1 → (pm_up (pm_up X 22 i (nI V1)) 23 i (nI V2)) 22 j = nI (if j = i then V1 else wd j) ∧ (pm_up (pm_up X 22 i (nI V1)) 23 i (nI V2)) 23 j = nI (if j = i then V2 else ww j) := fun j hj => by
      simp only [ur]
      by_cases q : j = i
      · simp [q]
      · simp [q]
        exact hX j (by omega)
    have h23 : (tc (pm_up (pm_up X 22 i (nI V1)) 23 i (nI V2)) P4 F4 E4) 23 i = nI V2 := by
      show (pm_up (pm_up X 22 i (nI V1)) 23 i (nI V2)) 23 i = _
      rw [ur, if_pos ⟨rfl, rfl⟩]
    have hcls : F_Ro_takeText_37 u (N + 1) (nI ro) (nI kn) (nI i) (nI (16 - al)) (tc X p f none) J = if (E4 = none ∧ P4 < n) then F_Ro_takeText_37 u N (nI ro) (nI kn) (nI (i + 1)) (nI (16 - al) - nI V2) (tc (pm_up (pm_up X 22 i (nI V1)) 23 i (nI V2)) P4 F4 E4) J else T75 u ro kn (i + 1) (pm_up (pm_up X 22 i (nI V1)) 23 i (nI V2)) P4 F4 (q_fi n P4 E4) J := by
      rw [F_Ro_takeText_37, s1, bd_s, vqT (show i < 4 by omega) (by omega), cond_true, nI_io1, nI_add, if_neg (by rw [show (4 : Int32) = nI 4 from rfl, nI_leI (by omega) (by omega)]; omega), t_hasMore s2 hb2, bd_s, b2i_ifn, nI_clamp (by omega), h23]
      by_cases c : E4 = none ∧ P4 < n
      · rw [if_pos c, decide_eq_true c]
        rfl
      · rw [if_neg c, decide_eq_false c]
        exact c_75 s2 hb2
    have hnext : ∀ M : pm_II, Mb b n M → F_Mo_cut_52 u (N2 + 1 + 1) (nI ro) (nI kn) (nI i) (nI al) (mc M p none) J = F_Mo_cut_74 u (F_Mo_cut_52 u (N2 + 1)) (nI ro) (nI kn) (nI i) (nI al) (mc M p none) J := by
      intro M hM
      have h3 : (mc M p none) 120 3 = nI n := hM.2.1
      have h4 : (mc M p none) 120 4 = nI p := rfl
      rw [F_Mo_cut_52, m_bad0 (Ok_0 hp).m hM, bd_s, if_neg (by decide), h3, h4]
      by_cases c : p < n
      · rw [if_pos (by rw [nI_ltI (by omega) (by omega)]; exact c)]
      · have e0 : i = 0 := by omega
        rw [if_neg (by rw [nI_ltI (by omega) (by omega)]; exact c), if_neg (by rw [e0]; exact fun z => z rfl)]
    have hrow : ∀ M : pm_II, (∀ j, j < i → M 125 j = nI (wd j) ∧ M 126 j = nI (ww j)) → ∀ j, j < i + 1 → (pm_up (pm_up M 125 i (nI V1)) 126 i (nI V2)) 125 j = nI (if j = i then V1 else wd j) ∧ (pm_up (pm_up M 125 i (nI V1)) 126 i (nI V2)) 126 j = nI (if j = i then V2 else ww j) := fun M hMj j hj => by
      simp only [ur]
      by_cases q : j = i
      · simp [q]
      · simp [q]
        exact hMj j (by omega)
    cases hE : E4 with
    | some y =>
      rw [hE] at s2
      have hc2 : F_Ro_takeText_37 u (N + 1) (nI ro) (nI kn) (nI i) (nI (16 - al)) (tc X p f none) J = T75 u ro kn (i + 1) (pm_up (pm_up X 22 i (nI V1)) 23 i (nI V2)) P4 F4 (some y) J := by
        rw [hcls, hE, if_neg (fun z => by cases z.1), fi_some]
      refine ⟨_, _, _, some y, i + 1, wd, ww, hc2, s2, oX, (fun z => by cases z), fun M hM hMj => ?_⟩
      obtain ⟨m1, m2⟩ := s5 M (nI kn) (F_Mo_cut_52 u (N2 + 1)) hM (fun k hk => (hMj k hk).1)
      obtain ⟨p3, al2, o3, k3⟩ := m2 y hE
      exact ⟨M, p3, i, by rw [hnext M hM, k3, m_52e o3 hM], o3, On.refl _, fun z => by cases z⟩
    | none =>
      obtain ⟨t1, t2, t3⟩ := s4 hE
      rw [hE] at s2
      have hP4 := s2.1
      have hsum : al + V2 = sumN (fun j => if j = i then V2 else ww j) (i + 1) := by
        show _ = sumN (fun j => if j = i then V2 else ww j) i + (if i = i then V2 else ww i)
        rw [sumN_c (h := ww) i (fun j hj => by rw [if_neg (by omega)]), if_pos rfl, ← hal]
      have hD2 : DRw ro (i + 1) (fun j => if j = i then V1 else wd j) (fun j => if j = i then V2 else ww j) := by
        refine ⟨fun j hj => ?_, by rw [← hsum]; exact t3⟩
        dsimp only
        by_cases q : j = i
        · rw [if_pos q, if_pos q]; exact ⟨t1, t2⟩
        · rw [if_neg q, if_neg q]; exact hD.1 j (by omega)
      by_cases c : P4 < n
      · obtain ⟨X2, pp, ff, ee, K, wd2, ww2, i1, i2, i3, i4, i5⟩ := ih (i + 1) P4 F4 (al + V2) N (N2 + 1) (pm_up (pm_up X 22 i (nI V1)) 23 i (nI V2)) (fun j => if j = i then V1 else wd j) (fun j => if j = i then V2 else ww j) (by omega) (by omega) (by omega) hP4 (Or.inr c) hb2 hXr hD2 hsum
        refine ⟨X2, pp, ff, ee, K, wd2, ww2, ?_, i2, On.trans oX i3, i4, fun M hM hMj => ?_⟩
        · rw [hcls, if_pos ⟨hE, c⟩, hE, pk_sub (by omega), show 16 - al - V2 = 16 - (al + V2) by omega]
          exact i1
        · obtain ⟨m1, m2⟩ := s5 M (nI kn) (F_Mo_cut_52 u (N2 + 1)) hM (fun k hk => (hMj k hk).1)
          have hM2 : Mb b n (pm_up (pm_up M 125 i (nI V1)) 126 i (nI V2)) := (hM.put (by decide) (by decide)).put (by decide) (by decide)
          obtain ⟨M2, p3, K2, k1, k2, k3, k4⟩ := i5 (pm_up (pm_up M 125 i (nI V1)) 126 i (nI V2)) hM2 (hrow M hMj)
          exact ⟨M2, p3, K2, by rw [hnext M hM, m1 hE]; exact k1, k2, On.trans (On.up (On.up (On.refl _) (Or.inl rfl)) (Or.inr rfl)) k3, k4⟩
      · have ef : q_fi n P4 none = none := by unfold q_fi; rw [if_neg c]
        have hc2 : F_Ro_takeText_37 u (N + 1) (nI ro) (nI kn) (nI i) (nI (16 - al)) (tc X p f none) J = T75 u ro kn (i + 1) (pm_up (pm_up X 22 i (nI V1)) 23 i (nI V2)) P4 F4 none J := by
          rw [hcls, hE, if_neg (fun z => c z.2), ef]
        refine ⟨_, _, _, none, i + 1, _, _, hc2, s2, oX, fun _ => ⟨by omega, by omega, hD2, hXr⟩, fun M hM hMj => ?_⟩
        obtain ⟨m1, m2⟩ := s5 M (nI kn) (F_Mo_cut_52 u (N2 + 1)) hM (fun k hk => (hMj k hk).1)
        have hM2 : Mb b n (pm_up (pm_up M 125 i (nI V1)) 126 i (nI V2)) := (hM.put (by decide) (by decide)).put (by decide) (by decide)
        have h3' : (mc (pm_up (pm_up M 125 i (nI V1)) 126 i (nI V2)) P4 none) 120 3 = nI n := hM2.2.1
        have h4' : (mc (pm_up (pm_up M 125 i (nI V1)) 126 i (nI V2)) P4 none) 120 4 = nI P4 := rfl
        refine ⟨_, P4, i + 1, ?_, s2.m, On.up (On.up (On.refl _) (Or.inl rfl)) (Or.inr rfl), fun _ => ⟨rfl, hrow M hMj⟩⟩
        rw [hnext M hM, m1 hE, F_Mo_cut_52, m_bad0 s2.m hM2, bd_s, if_neg (by decide), h3', h4', if_neg (by rw [nI_ltI (by omega) (by omega)]; exact c), if_pos (by rw [i0_iff (by omega)]; omega)]
end RLoop
