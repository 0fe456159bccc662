/-! ===== letters: the whole text ===== -/
section LText
variable {u : Nat} {b : Nat → Int32} {n : Nat} {s : LTt}
theorem l14h {k N p : Nat} {M : pm_II} {JM : pm_JJ} (hk : k < 100) (hp : p ≤ n) (hM : Mb b n M) (h : k = 0 ∨ p < n) : F_Mo_letters_14 u (N + 1) (nI k) (mc M p none) JM = F_Mo_letters_36 u (F_Mo_letters_14 u N) (nI k) (mc M p none) JM := by
  have ho : Ok n p none := Ok_0 hp
  have hn := hM.2.2
  have h3 : (mc M p none) 120 3 = nI n := hM.2.1
  have h4 : (mc M p none) 120 4 = nI p := rfl
  rw [F_Mo_letters_14, m_bad0 ho.m hM, bd_s, if_neg (by decide), h3, h4]
  by_cases c : p < n
  · rw [if_pos (by rw [nI_ltI (by omega) (by omega)]; exact c)]
  · rw [if_neg (by rw [nI_ltI (by omega) (by omega)]; exact c), if_neg (by rw [i0_iff (by omega)]; omega)]
theorem l14e {k N p : Nat} {M : pm_II} {JM : pm_JJ} (hk : k < 100) (hk0 : k ≠ 0) (hp : p = n) (hM : Mb b n M) : F_Mo_letters_14 u (N + 1) (nI k) (mc M p none) JM = F_Mo_letters_240 u (mc M p none) JM := by
  have ho : Ok n p none := Ok_0 (by omega)
  have hn := hM.2.2
  have h3 : (mc M p none) 120 3 = nI n := hM.2.1
  have h4 : (mc M p none) 120 4 = nI p := rfl
  rw [F_Mo_letters_14, m_bad0 ho.m hM, bd_s, if_neg (by decide), h3, h4, if_neg (by rw [nI_ltI (by omega) (by omega)]; omega), if_pos (by rw [i0_iff (by omega)]; omega)]
theorem l14S {N p z : Nat} {k : Int32} {M : pm_II} {JM : pm_JJ} (ho : Om n p (some z)) (hM : Mb b n M) : F_Mo_letters_14 u (N + 1) k (mc M p (some z)) JM = F_Mo_letters_240 u (mc M p (some z)) JM := by
  rw [F_Mo_letters_14, m_badS ho hM, bd_s, if_pos (by decide)]
theorem l50S {p z : Nat} {x1 : Int32} {M : pm_II} {JM : pm_JJ} {K : Int32 → pm_II → pm_JJ → Option (Int32 × pm_II × pm_JJ)} (hu : 10 ≤ u) (hoM : Om n p (some z)) (hM : Mb b n M) : F_Mo_letters_50 u K x1 (mc M p (some z)) JM = K x1 (mc M p (some z)) JM := by
  unfold F_Mo_letters_50
  obtain ⟨U, rfl⟩ : ∃ q, u = q + 1 := ⟨u - 1, by omega⟩
  rw [F_Mo_letters_54, if_neg (by decide), m_badS hoM hM, bd_s, if_pos (by decide)]
  unfold F_Mo_letters_113 F_Mo_nameHere
  rw [m_needS (by decide) hoM hM, bd_s, m_badS hoM hM, bd_s, if_neg (by decide), bd_s, m_needS (by decide) hoM hM, bd_s, m_badS hoM hM, bd_s, if_neg (by decide)]
def kDI (c k : Nat) : Prop := c = 93 ∨ (c = 89 ∧ k = 5)
def kDJ (c _k : Nat) : Prop := c = 94
def kMI (L c k : Nat) : Prop := (c = 162 ∧ L ≤ k) ∨ (c = 120 ∧ (k = 74 ∨ k = 4 ∨ k = 5))
def kMJ (L c k : Nat) : Prop := c = 168 ∧ L ≤ k
theorem ad_up {dc : Nat → Nat} {dm : Nat → Int64} {k cd : Nat} {nm : Int64} : adk s (fun j => if j = k then cd else dc j) (fun j => if j = k then nm else dm j) (k + 1) = adl (adk s dc dm k) cd nm := by
  have e := adk_c (s := s) (dc := dc) (dm := dm) (dc2 := fun j => if j = k then cd else dc j) (dm2 := fun j => if j = k then nm else dm j) k (fun j hj => by
    show dc j = (if j = k then cd else dc j) ∧ dm j = (if j = k then nm else dm j)
    rw [if_neg (by omega), if_neg (by omega)]; exact ⟨rfl, rfl⟩)
  rw [adk, ← e]
  simp only [if_true]
theorem dr_up {dc : Nat → Nat} {dm : Nat → Int64} {k cd : Nat} {nm : Int64} {I : pm_II} {J : pm_JJ} (hk : k < 40) (hc : cd < 100000) (hd : DR k dc dm I J) : DR (k + 1) (fun j => if j = k then cd else dc j) (fun j => if j = k then nm else dm j) (pm_up (pm_up I 93 k (nI cd)) 89 5 (nI (k + 1))) (pm_up J 94 k nm) := by
  refine ⟨by omega, rfl, fun j hj => ?_⟩
  rw [ur, if_neg (by omega), ur, ur]
  simp only [true_and]
  by_cases c : j = k
  · simp only [if_pos c]; exact ⟨trivial, trivial, hc⟩
  · simp only [if_neg c]; exact hd.2.2 j (by omega)
theorem ln_model {dc : Nat → Nat} {dm : Nat → Int64} {k cd p : Nat} {nm : Int64} {M : pm_II} {JM : pm_JJ} {K : Int32 → pm_II → pm_JJ → Option (Int32 × pm_II × pm_JJ)} (hu : 1700 ≤ u) (ho : okl s) (hs : s.1 ≤ 120) (hk : k < 40) (hc : cd < 100000) (hdc : ∀ j, j < k → dc j < 100000) (hM : Mb b n M) (hL : LM (adk s dc dm k) M JM) (h74 : M 120 74 = nI (adk s dc dm k).1) : ∃ M2 J2, Mb b n M2 ∧ F_Mo_letters_149 u K u (nI k + Int32.ofInt 1) (nI cd) nm 0 0 (mc M p none) JM = K (nI (k + 1)) (mc M2 p none) J2 ∧ LM (adl (adk s dc dm k) cd nm) M2 J2 ∧ M2 120 74 = nI (adl (adk s dc dm k) cd nm).1 ∧ On (kMI s.1) M M2 ∧ On (kMJ s.1) JM J2 := by
  have hle := adk_le (s := s) (dc := dc) (dm := dm) k
  have hok := okl_adk (dc := dc) (dm := dm) ho k hdc
  obtain ⟨M2, J2, g1, g2, g3, g4, g5⟩ := m_149 (u := u) (M := mc M p none) (JM := JM) (K := K) (x1 := nI k + Int32.ofInt 1) (c := cd) (m := nm) hok (fun k hk => by rw [mc_r (by omega)]; exact hL k hk) (by rw [mc_k (by omega) (by omega)]; exact h74) (by omega) hc (adk s dc dm k).1 0 u false (by omega) (by omega) ⟨(fun y => by cases y), fun ⟨j, hj, _⟩ => by omega⟩
  have eM : M2 = mc M2 p none := by
    have := M2_id M2
    rw [g4 120 4 (by omega), g4 120 5 (by omega)] at this
    exact this.symm
  refine ⟨M2, J2, ⟨fun j hj => by rw [g4 122 j (by omega), mc_r (by omega)]; exact hM.1 j hj, by rw [g4 120 3 (by omega), mc_k (by omega) (by omega)]; exact hM.2.1, hM.2.2⟩, ?_, g2, g3, fun c k hc => ?_, fun c k hc => g5 c k (fun z => hc (by unfold kMJ; omega))⟩
  · have e1 : nI k + Int32.ofInt 1 = nI (k + 1) := by rw [nI_io1, nI_add]
    rw [e1] at g1 ⊢
    refine Eq.trans g1 ?_
    rw [← eM]
  · unfold kMI at hc
    rw [g4 c k (by omega)]
    by_cases h120 : c = 120
    · subst h120; rw [mc_k (by omega) (by omega)]
    · rw [mc_r h120]
theorem ll_loop (hu : 1700 ≤ u) (hbb : ∀ j, j < n → ∃ x : Nat, x < 256 ∧ b j = nI x) (ho : okl s) (hs : s.1 ≤ 120) : ∀ (d k p f N N2 : Nat) (dc : Nat → Nat) (dm : Nat → Int64) (I : pm_II) (J : pm_JJ), k + (d + 1) = 40 → d < N → d + 3 < N2 → Tb b n I → p ≤ n → (k = 0 ∨ p < n) → DR k dc dm I J →
    ∃ I1 J1 pp ff e0 kk dc1 dm1, Ok n pp e0 ∧ F_Ma_takeText_5 u N (tc I p f none) J = F_Ma_takeText_69 u (tc I1 pp ff e0) J1 ∧ On kDI I I1 ∧ On kDJ J J1 ∧ (q_fi n pp e0 = none → DR kk dc1 dm1 I1 J1) ∧ ∀ (M : pm_II) (JM : pm_JJ), Mb b n M → LM (adk s dc dm k) M JM → M 120 74 = nI (adk s dc dm k).1 → ∃ M1 J2 p3, Om n p3 (q_fi n pp e0) ∧ Mb b n M1 ∧ F_Mo_letters_14 u N2 (nI k) (mc M p none) JM = F_Mo_letters_240 u (mc M1 p3 (q_fi n pp e0)) J2 ∧ (q_fi n pp e0 = none → LM (adk s dc1 dm1 kk) M1 J2 ∧ M1 120 74 = nI (adk s dc1 dm1 kk).1) ∧ On (kMI s.1) M M1 ∧ On (kMJ s.1) JM J2 := by
  intro d
  induction d with
  | zero =>
    intro k p f N N2 dc dm I J hk hN hN2 hb hp hor hd
    have k39 : k = 39 := by omega
    obtain ⟨N, rfl⟩ : ∃ z, N = z + 1 := ⟨N - 1, by omega⟩
    obtain ⟨N2, rfl⟩ : ∃ z, N2 = z + 3 := ⟨N2 - 3, by omega⟩
    have hct : ∀ X Y, ctn u N k X Y = F_Ma_takeText_69 u X Y := fun X Y => by unfold ctn; rw [k39, if_pos (by decide)]
    have hn39 : ∀ (M : pm_II) (JM : pm_JJ), F_Mo_letters_36 u (F_Mo_letters_14 u (N2 + 2)) (nI k) (mc M p none) JM = F_Mo_letters_50 u (F_Mo_letters_14 u (N2 + 2)) (nI k) (mc M p none) JM := fun M JM => by unfold F_Mo_letters_36; rw [k39, if_pos (by decide)]
    rcases ln_step (u := u) (J := J) (f := f) (k := k) hu hbb hb hp (by omega) hd.2.1 with ⟨z, v, w, p', f', q1, q2, q3, q4⟩ | ⟨cd, nm, p', f', q1, q2, q3, q4⟩
    · have hoS : Ok n p' (some z) := (Ok_0 q2).s q1
      refine ⟨_, _, p', f', some z, 0, dc, dm, hoS, by rw [q3 N, hct], ?_, On.up (On.refl _) rfl, (fun y => by rw [fi_some] at y; cases y), fun M JM hM hL h74 => ?_⟩
      · refine On.up (On.up (On.refl _) ?_) ?_ <;> (unfold kDI; omega)
      · obtain ⟨p2, y1, y2⟩ := q4 M JM (F_Mo_letters_14 u (N2 + 2)) (nI k) hM
        have hoM : Om n p2 (some z) := ⟨y1, (fun y => by cases y), fun x hx => by cases hx; exact q1⟩
        refine ⟨M, JM, p2, by rw [fi_some]; exact hoM, hM, ?_, (fun y => by rw [fi_some] at y; cases y), On.refl _, On.refl _⟩
        rw [l14h (by omega) hp hM hor, hn39, y2, l14S hoM hM, fi_some]
    · have o1 : Ok n p' none := Ok_0 q2
      refine ⟨_, _, p', f', none, k + 1, _, _, o1, by rw [q3 N, hct], ?_, On.up (On.refl _) rfl, fun _ => dr_up (by omega) q1 hd, fun M JM hM hL h74 => ?_⟩
      · refine On.up (On.up (On.refl _) ?_) ?_ <;> (unfold kDI; omega)
      · obtain ⟨M2, J2, g1, g2, g3, g4, g5, g6⟩ := ln_model (u := u) (p := p') (K := F_Mo_letters_14 u (N2 + 2)) hu ho hs (show k < 40 by omega) q1 (fun j hj => (hd.2.2 j hj).2.2) hM hL h74
        have e50 : F_Mo_letters_14 u (N2 + 3) (nI k) (mc M p none) JM = F_Mo_letters_14 u (N2 + 2) (nI (k + 1)) (mc M2 p' none) J2 := by
          rw [l14h (by omega) hp hM hor, hn39, q4 M JM _ (nI k) hM, g2]
        rw [e50]
        refine ⟨M2, J2, p', (Ok_fi o1).m, g1, ?_, fun _ => by rw [ad_up]; exact ⟨g3, g4⟩, g5, g6⟩
        by_cases c : p' = n
        · rw [l14e (by omega) (by omega) c g1]
          unfold q_fi
          rw [if_neg (by omega)]
        · rw [l14h (by omega) q2 g1 (Or.inr (by omega))]
          have e1 : q_fi n p' none = some p' := by unfold q_fi; rw [if_pos (by omega)]; rfl
          have h4 : (mc M2 p' none) 120 4 = nI p' := rfl
          have hoM : Om n p' (some p') := o1.m.s q2
          unfold F_Mo_letters_36
          rw [k39, if_neg (by decide), h4, m_fail0 o1.m g1, bd_s, l50S (by omega) hoM g1, l14S hoM g1, e1]
  | succ d ih =>
    intro k p f N N2 dc dm I J hk hN hN2 hb hp hor hd
    obtain ⟨N, rfl⟩ : ∃ z, N = z + 1 := ⟨N - 1, by omega⟩
    obtain ⟨N2, rfl⟩ : ∃ z, N2 = z + 2 := ⟨N2 - 2, by omega⟩
    have c40 : ¬ (40 : Int32) ≤ nI (k + 1) := by rw [nl_40, nI_leI (by omega) (by omega)]; omega
    have hct : ∀ X Y, ctn u N k X Y = bd (F_Ta_hasMore u X Y) fun r63 I63 J63 => if ¬ r63 = 0 then F_Ma_takeText_5 u N I63 J63 else F_Ma_takeText_69 u I63 J63 := fun X Y => by unfold ctn; rw [if_neg c40]
    have hn40 : ∀ (M : pm_II) (JM : pm_JJ), F_Mo_letters_36 u (F_Mo_letters_14 u (N2 + 1)) (nI k) (mc M p none) JM = F_Mo_letters_50 u (F_Mo_letters_14 u (N2 + 1)) (nI k) (mc M p none) JM := fun M JM => by unfold F_Mo_letters_36; rw [if_pos (by rw [nl_40, nI_eq (by omega) (by omega)]; omega)]
    rcases ln_step (u := u) (J := J) (f := f) (k := k) hu hbb hb hp (by omega) hd.2.1 with ⟨z, v, w, p', f', q1, q2, q3, q4⟩ | ⟨cd, nm, p', f', q1, q2, q3, q4⟩
    · have hoS : Ok n p' (some z) := (Ok_0 q2).s q1
      have hb2 : Tb b n (pm_up (pm_up I 93 k v) 89 5 (nI (k + 1))) := (hb.put (by omega) (by omega)).put (by omega) (by omega)
      refine ⟨_, _, p', f', some z, 0, dc, dm, hoS, by rw [q3 N, hct, t_hmS hoS hb2, bd_s, if_neg (by decide)], ?_, On.up (On.refl _) rfl, (fun y => by rw [fi_some] at y; cases y), fun M JM hM hL h74 => ?_⟩
      · refine On.up (On.up (On.refl _) ?_) ?_ <;> (unfold kDI; omega)
      · obtain ⟨p2, y1, y2⟩ := q4 M JM (F_Mo_letters_14 u (N2 + 1)) (nI k) hM
        have hoM : Om n p2 (some z) := ⟨y1, (fun y => by cases y), fun x hx => by cases hx; exact q1⟩
        refine ⟨M, JM, p2, by rw [fi_some]; exact hoM, hM, ?_, (fun y => by rw [fi_some] at y; cases y), On.refl _, On.refl _⟩
        rw [l14h (by omega) hp hM hor, hn40, y2, l14S hoM hM, fi_some]
    · have o1 : Ok n p' none := Ok_0 q2
      have hb2 : Tb b n (pm_up (pm_up I 93 k (nI cd)) 89 5 (nI (k + 1))) := (hb.put (by omega) (by omega)).put (by omega) (by omega)
      have onI : On kDI I (pm_up (pm_up I 93 k (nI cd)) 89 5 (nI (k + 1))) := by
        refine On.up (On.up (On.refl _) ?_) ?_ <;> (unfold kDI; omega)
      have onJ : On kDJ J (pm_up J 94 k nm) := On.up (On.refl _) rfl
      by_cases c : p' = n
      · refine ⟨_, _, p', f', none, k + 1, _, _, o1, by rw [q3 N, hct, t_hm0 c hb2, bd_s, if_neg (by decide)], onI, onJ, fun _ => dr_up (by omega) q1 hd, fun M JM hM hL h74 => ?_⟩
        obtain ⟨M2, J2, g1, g2, g3, g4, g5, g6⟩ := ln_model (u := u) (p := p') (K := F_Mo_letters_14 u (N2 + 1)) hu ho hs (show k < 40 by omega) q1 (fun j hj => (hd.2.2 j hj).2.2) hM hL h74
        refine ⟨M2, J2, p', (Ok_fi o1).m, g1, ?_, fun _ => by rw [ad_up]; exact ⟨g3, g4⟩, g5, g6⟩
        rw [l14h (by omega) hp hM hor, hn40, q4 M JM _ (nI k) hM, g2, l14e (by omega) (by omega) c g1]
        unfold q_fi
        rw [if_neg (by omega)]
      · obtain ⟨I1, J1, pp, ff, e0, kk, dc1, dm1, i1, i2, i3, i4, i5, i6⟩ := ih (k + 1) p' f' N (N2 + 1) _ _ (pm_up (pm_up I 93 k (nI cd)) 89 5 (nI (k + 1))) (pm_up J 94 k nm) (by omega) (by omega) (by omega) hb2 q2 (Or.inr (by omega)) (dr_up (by omega) q1 hd)
        refine ⟨I1, J1, pp, ff, e0, kk, dc1, dm1, i1, by rw [q3 N, hct, t_hm1 (by omega) hb2, bd_s, if_pos (by decide)]; exact i2, onI.trans i3, onJ.trans i4, i5, fun M JM hM hL h74 => ?_⟩
        obtain ⟨M2, J2, g1, g2, g3, g4, g5, g6⟩ := ln_model (u := u) (p := p') (K := F_Mo_letters_14 u (N2 + 1)) hu ho hs (show k < 40 by omega) q1 (fun j hj => (hd.2.2 j hj).2.2) hM hL h74
        obtain ⟨M3, J3, p3, x1, x2, x3, x4, x5, x6⟩ := i6 M2 J2 g1 (by rw [ad_up]; exact g3) (by rw [ad_up]; exact g4)
        refine ⟨M3, J3, p3, x1, x2, ?_, x4, g5.trans x5, g6.trans x6⟩
        rw [l14h (by omega) hp hM hor, hn40, q4 M JM _ (nI k) hM, g2]
        exact x3
end LText
