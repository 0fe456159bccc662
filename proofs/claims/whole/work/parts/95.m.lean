/-! ===== mail: strike ===== -/
def skp (k0 k : Nat) : Nat := if k < k0 then k else k + 1
theorem cnt_rm {G : Nat → Bool} {k0 : Nat} : ∀ d, cnt G (k0 + d + 1) = cnt (fun k => G (skp k0 k)) (k0 + d) + (G k0).toNat
  | 0 => by
    show cnt G (k0 + 1) = cnt (fun k => G (skp k0 k)) k0 + (G k0).toNat
    rw [cnt, cnt_c (G := G) (H := fun k => G (skp k0 k)) k0 (fun k hk => by show G k = G (skp k0 k); unfold skp; rw [if_pos hk])]
  | d + 1 => by
    have e1 : cnt G (k0 + (d + 1) + 1) = cnt G (k0 + d + 1) + (G (k0 + d + 1)).toNat := rfl
    have e2 : cnt (fun k => G (skp k0 k)) (k0 + (d + 1)) = cnt (fun k => G (skp k0 k)) (k0 + d) + (G (skp k0 (k0 + d))).toNat := rfl
    have e3 : skp k0 (k0 + d) = k0 + d + 1 := by unfold skp; rw [if_neg (by omega)]
    rw [e1, e2, e3, cnt_rm d]
    omega
/-- the list without the k0-th -/
def rml (s : LTt) (k0 : Nat) : LTt := (s.1 - 1, fun k => s.2.1 (skp k0 k), fun k => s.2.2 (skp k0 k))
section Strike
variable {u t : Nat} {s : LTt} {cm : Nat → Nat} {K most least : Nat}
theorem skp_lt {k0 k : Nat} (hk0 : k0 < s.1) (hk : k < s.1 - 1) : skp k0 k < s.1 ∧ skp k0 k ≠ k0 := by
  unfold skp; split <;> omega
theorem skp_mono {k0 j k : Nat} (h : j < k) : skp k0 j < skp k0 k := by
  unfold skp; split <;> split <;> omega
theorem rml_okl {k0 : Nat} (ho : okl s) (hk0 : k0 < s.1) : okl (rml s k0) := by
  refine ⟨fun j k hj hk e => ?_, fun k hk => ho.2 _ (skp_lt hk0 hk).1⟩
  have e2 := ho.1 (skp k0 j) (skp k0 k) (skp_lt hk0 hj).1 (skp_lt hk0 hk).1 e
  by_cases c : j < k
  · have := skp_mono (k0 := k0) c; omega
  · by_cases d : k < j
    · have := skp_mono (k0 := k0) d; omega
    · omega
theorem rml_rk {k0 k : Nat} (ho : okl s) (hk0 : k0 < s.1) (hk : k < s.1 - 1) : rkl s (skp k0 k) = rkl (rml s k0) k + (decide (rkl s k0 < rkl s (skp k0 k))).toNat := by
  obtain ⟨a1, a2⟩ := skp_lt hk0 hk
  have e := cnt_rm (G := fun j => decide (lky s j < lky s (skp k0 k))) (k0 := k0) (s.1 - 1 - k0)
  rw [show k0 + (s.1 - 1 - k0) + 1 = s.1 by omega, show k0 + (s.1 - 1 - k0) = s.1 - 1 by omega] at e
  have e1 : rkl s (skp k0 k) = cnt (fun j => decide (lky s j < lky s (skp k0 k))) s.1 := rfl
  have e2 : rkl (rml s k0) k = cnt (fun j => decide (lky s (skp k0 j) < lky s (skp k0 k))) (s.1 - 1) := rfl
  have e3 : decide (lky s k0 < lky s (skp k0 k)) = decide (rkl s k0 < rkl s (skp k0 k)) := decide_eq_decide.mpr (rk_iff (κ := lky s) (L := s.1) hk0)
  rw [← e3]
  exact e1.trans (e.trans (by rw [e2]))
theorem row_step {α : Type} {r r1 r2 : Nat → α} {p L : Nat} (hp : p < L) (h1 : ∀ j, r1 j = if j = p then r (p + 1) else r j) (h2 : ∀ j, r2 j = if p + 1 ≤ j ∧ j < L then r1 (j + 1) else r1 j) (j : Nat) : r2 j = if p ≤ j ∧ j < L then r (j + 1) else r j := by
  by_cases c : j = p
  · subst c
    have n1 : ¬ (j + 1 ≤ j ∧ j < L) := by omega
    have n2 : j ≤ j ∧ j < L := by omega
    rw [h2, if_neg n1, h1, if_pos rfl, if_pos n2]
  · by_cases q : p + 1 ≤ j ∧ j < L
    · have n2 : p ≤ j ∧ j < L := by omega
      have n3 : ¬ j + 1 = p := by omega
      rw [h2, if_pos q, h1, if_neg n3, if_pos n2]
    · have n2 : ¬ (p ≤ j ∧ j < L) := by omega
      rw [h2, if_neg q, h1, if_neg c, if_neg n2]
theorem row_up {α : Type} {A : Nat → Nat → α} {c j : Nat} {v : α} (k : Nat) : pm_up A c j v c k = if k = j then v else A c k := by
  rw [ur]; simp only [true_and]
theorem c_rem22 {L : Nat} (hL : L < 120) : ∀ (d p N : Nat) (I : pm_II) (J : pm_JJ), p + d = L → d < N → I 89 6 = nI L → ∃ I2 J2, F_Ma_remove_22 u N (nI p) I J = some (nI L, I2, J2) ∧ (∀ j, I2 90 j = if p ≤ j ∧ j < L then I 90 (j + 1) else I 90 j) ∧ (∀ j, I2 92 j = if p ≤ j ∧ j < L then I 92 (j + 1) else I 92 j) ∧ (∀ j, J2 91 j = if p ≤ j ∧ j < L then J 91 (j + 1) else J 91 j) ∧ On (fun c _ => c = 90 ∨ c = 92) I I2 ∧ On (fun c _ => c = 91) J J2 := by
  intro d
  induction d with
  | zero =>
    intro p N I J hp hN h6
    obtain ⟨N, rfl⟩ : ∃ z, N = z + 1 := ⟨N - 1, by omega⟩
    refine ⟨I, J, ?_, fun j => by rw [if_neg (by omega)], fun j => by rw [if_neg (by omega)], fun j => by rw [if_neg (by omega)], On.refl _, On.refl _⟩
    rw [F_Ma_remove_22, h6, if_pos (by rw [nI_leI (by omega) (by omega)]; omega)]
  | succ d ih =>
    intro p N I J hp hN h6
    obtain ⟨N, rfl⟩ : ∃ z, N = z + 1 := ⟨N - 1, by omega⟩
    obtain ⟨I2, J2, i1, i2, i3, i4, i5, i6⟩ := ih (p + 1) N (pm_up (pm_up I 90 p (I 90 (p + 1))) 92 p (I 92 (p + 1))) (pm_up J 91 p (J 91 (p + 1))) (by omega) (by omega) h6
    refine ⟨I2, J2, ?_, fun j => ?_, fun j => ?_, fun j => ?_, On.trans (On.up (On.up (On.refl _) (Or.inl rfl)) (Or.inr rfl)) i5, On.trans (On.up (On.refl _) rfl) i6⟩
    · rw [F_Ma_remove_22, h6, if_neg (by rw [nI_leI (by omega) (by omega)]; omega), nI_io1, nl_1, nI_add, vqT (show p < 120 by omega) (by omega), vqT (show p + 1 < 120 by omega) (by omega), nI_clamp (by omega), nI_clamp (by omega)]
      exact i1
    · exact row_step (r := I 90) (r1 := fun j => (pm_up (pm_up I 90 p (I 90 (p + 1))) 92 p (I 92 (p + 1))) 90 j) (r2 := I2 90) (by omega) (fun j => by rw [ur, if_neg (by omega)]; exact row_up j) i2 j
    · exact row_step (r := I 92) (r1 := fun j => (pm_up (pm_up I 90 p (I 90 (p + 1))) 92 p (I 92 (p + 1))) 92 j) (r2 := I2 92) (by omega) (fun j => row_up j) i3 j
    · exact row_step (r := J 91) (r1 := fun j => (pm_up J 91 p (J 91 (p + 1))) 91 j) (r2 := J2 91) (by omega) (fun j => row_up j) i4 j
theorem m_str23 {L : Nat} (hL : L ≤ 120) : ∀ (d k N : Nat) (I : pm_II) (J : pm_JJ), k + d + 1 = L → d < N → I 120 73 = nI L → ∃ I2 J2, F_Mo_strike_23 u N (nI k) I J = (bd (F_Mo_bundled u (pm_up I2 120 73 (nI (L - 1))) J2) fun _ I78 J78 => some ((I78 120 73), I78, J78)) ∧ (∀ j, I2 162 j = if k ≤ j ∧ j + 1 < L then I 162 (j + 1) else I 162 j) ∧ (∀ j, J2 168 j = if k ≤ j ∧ j + 1 < L then J 168 (j + 1) else J 168 j) ∧ On (fun c _ => c = 162) I I2 ∧ On (fun c _ => c = 168) J J2 := by
  intro d
  induction d with
  | zero =>
    intro k N I J hk hN h73
    obtain ⟨N, rfl⟩ : ∃ z, N = z + 1 := ⟨N - 1, by omega⟩
    refine ⟨I, J, ?_, fun j => by rw [if_neg (by omega)], fun j => by rw [if_neg (by omega)], On.refl _, On.refl _⟩
    rw [F_Mo_strike_23, h73, nl_1, nI_add, if_pos (by rw [nI_leI (by omega) (by omega)]; omega), nI_sub2 (by omega)]
  | succ d ih =>
    intro k N I J hk hN h73
    obtain ⟨N, rfl⟩ : ∃ z, N = z + 1 := ⟨N - 1, by omega⟩
    obtain ⟨I2, J2, i1, i2, i3, i4, i5⟩ := ih (k + 1) N (pm_up I 162 k (I 162 (k + 1))) (pm_up J 168 k (J 168 (k + 1))) (by omega) (by omega) h73
    refine ⟨I2, J2, ?_, fun j => ?_, fun j => ?_, On.trans (On.up (On.refl _) rfl) i4, On.trans (On.up (On.refl _) rfl) i5⟩
    · rw [F_Mo_strike_23, h73, nl_1, nI_add, if_neg (by rw [nI_leI (by omega) (by omega)]; omega), vqT (show k + 1 < 161 by omega) (by omega), vqT (show k < 161 by omega) (by omega), nI_clamp (by omega), nI_clamp (by omega), nI_io1, nI_add]
      exact i1
    · have := row_step (r := I 162) (r1 := fun j => (pm_up I 162 k (I 162 (k + 1))) 162 j) (r2 := I2 162) (L := L - 1) (by omega) (fun j => row_up j) (fun j => by
        rw [i2]
        by_cases q : k + 1 ≤ j ∧ j + 1 < L
        · rw [if_pos q, if_pos (by omega)]
        · rw [if_neg q, if_neg (by omega)]) j
      rw [this]
      by_cases q : k ≤ j ∧ j + 1 < L
      · rw [if_pos q, if_pos (by omega)]
      · rw [if_neg q, if_neg (by omega)]
    · have := row_step (r := J 168) (r1 := fun j => (pm_up J 168 k (J 168 (k + 1))) 168 j) (r2 := J2 168) (L := L - 1) (by omega) (fun j => row_up j) (fun j => by
        rw [i3]
        by_cases q : k + 1 ≤ j ∧ j + 1 < L
        · rw [if_pos q, if_pos (by omega)]
        · rw [if_neg q, if_neg (by omega)]) j
      rw [this]
      by_cases q : k ≤ j ∧ j + 1 < L
      · rw [if_pos q, if_pos (by omega)]
      · rw [if_neg q, if_neg (by omega)]
theorem st_strike {I : pm_II} {J : pm_JJ} {x : Int32} (hu : 400 ≤ u) (h : P7 t I J) : St7 t (F_Ph_strike u x) (F_Mo_strike u x) I J := by
  obtain ⟨s, cm, K, most, least, ⟨ho, hK, h1, h2, h30⟩, hc, hm, ⟨h5, h6⟩, hs, hX, hw⟩ := h
  have hL := hc.1
  unfold St7 F_Ph_strike F_Ma_remove F_Bu_outdate
  rw [rng_hasL hc, bd_s, b2i_ifn]
  cases hx : rng x s.1 with
  | false =>
    have o7 : On k7 I (pm_up I 95 8 1) := On.up (On.refl _) (by unfold k7; omega)
    have oS : On (fun c k => c = 95 ∧ k = 8) I (pm_up I 95 8 1) := On.up (On.refl _) (by omega)
    refine ⟨-1, _, J, pm_up I 95 8 1, J, rfl, ?_, ⟨s, cm, K, most, least, ⟨ho, hK, h1, h2, h30⟩, hc.on oS (by omega) (by omega) (fun p => by omega), hm.lo oS (fun c k z => by omega), ⟨h5, h6⟩, Or.inl (show ¬ (1 : Int32) = 0 by decide), hX.on oS (by omega) (fun p => by omega), hw.lo oS (fun c k z => by omega)⟩, o7.fr (fun c k z => k7_own z), Fr.refl _ _, Ptape_k7 o7⟩
    unfold F_Mo_strike
    have h73 : (pm_up I 95 8 1) 120 73 = nI s.1 := hw.1
    rw [h73, m_isB, bd_s, rgb_rng (by omega), hx, b2i_ifn]
    rfl
  | true =>
    obtain ⟨i, hi, rfl⟩ := rng_n (by omega) hx
    obtain ⟨o1, o2⟩ := oL_h ho hi
    rw [cond_true, hc.2.2.2.2.1, nl_1, nI_sub2 (by omega)]
    obtain ⟨I1, J1, a1, a2, a3, a4, a5, a6⟩ := c_rem22 (u := u) (L := s.1 - 1) (by omega) (s.1 - 1 - i) i u (pm_up I 89 6 (nI (s.1 - 1))) J (by omega) (by omega) rfl
    rw [a1, bd_s, bd_s]
    have b1 : On (fun c _ => c < 120) I (pm_up I1 95 8 1) := by
      refine On.up (On.trans (On.up (On.refl _) ?_) (a5.mono (fun c k z => ?_))) ?_ <;> omega
    have hw1 := hw.lo b1 (fun c k z => z)
    obtain ⟨I2, J2, c1, c2, c3, c4, c5⟩ := m_str23 (u := u) (L := s.1) hL (s.1 - 1 - oL s i) (oL s i) u (pm_up I1 95 8 1) J1 (by omega) (by omega) hw1.1
    have hok := rml_okl ho o1
    have hLM : LM (rml s (oL s i)) (pm_up I2 120 73 (nI (s.1 - 1))) J2 := by
      intro k hk
      have hk' : k < s.1 - 1 := hk
      have e1 : (pm_up I2 120 73 (nI (s.1 - 1))) 162 k = I2 162 k := rfl
      have e2 : ∀ j, (pm_up I1 95 8 1) 162 j = I 162 j := fun j => b1 162 j (by omega)
      have e3 : ∀ j, J1 168 j = J 168 j := fun j => a6 168 j (by omega)
      rw [e1, c2, c3, e2, e2, e3, e3]
      show _ = nI (s.2.1 (skp (oL s i) k)) ∧ _ = s.2.2 (skp (oL s i) k)
      unfold skp
      by_cases q : k < oL s i
      · have n1 : ¬ (oL s i ≤ k ∧ k + 1 < s.1) := by omega
        simp only [if_neg n1, if_pos q]
        exact hm k (by omega)
      · have n1 : oL s i ≤ k ∧ k + 1 < s.1 := by omega
        simp only [if_pos n1, if_neg q]
        exact hm (k + 1) (by omega)
    have hn75 : (pm_up I2 120 73 (nI (s.1 - 1))) 120 75 = nI least := by
      have e : (pm_up I2 120 73 (nI (s.1 - 1))) 120 75 = I2 120 75 := rfl
      rw [e, c4 120 75 (by omega)]; exact hw1.2.2.1
    have hn76 : (pm_up I2 120 73 (nI (s.1 - 1))) 120 76 = nI most := by
      have e : (pm_up I2 120 73 (nI (s.1 - 1))) 120 76 = I2 120 76 := rfl
      rw [e, c4 120 76 (by omega)]; exact hw1.2.2.2
    obtain ⟨I3, f1, f2, f3, f4⟩ := m_bundled (u := u) (J := J2) (s := rml s (oL s i)) (I := pm_up I2 120 73 (nI (s.1 - 1))) (most := most) (least := least) hu hok (by show s.1 - 1 ≤ 120; omega) h1 h2 h30 hLM rfl hn75 hn76
    have oB : On (fun c _ => 120 ≤ c) (pm_up I1 95 8 1) I3 := by
      refine On.trans (On.up (On.mono c4 (fun c k z => ?_)) ?_) (f4.mono (fun c k z => ?_))
      · omega
      · omega
      · unfold kMO kMB at z; omega
    have oA : On k7 I I3 := by
      refine On.trans (On.trans (On.up (On.trans (On.up (On.refl _) ?_) (a5.mono (fun c k z => ?_))) ?_) (On.up (c4.mono (fun c k z => ?_)) ?_)) (f4.mono (fun c k z => kMO_k7 z)) <;> (unfold k7; omega)
    have oJ : On k7 J J2 := by
      refine On.trans (a6.mono (fun c k z => ?_)) (c5.mono (fun c k z => ?_)) <;> (unfold k7; omega)
    refine ⟨nI (s.1 - 1), pm_up I1 95 8 1, J1, I3, J2, rfl, ?_, ⟨rml s (oL s i), fun k => cm (skp (oL s i) k), K, most, least, ⟨hok, hK, h1, h2, h30⟩, ⟨?_, hc.2.1, fun j k hjk hk => ?_, fun k hk => ?_, ?_, ?_, fun k hk => ?_⟩, fun k hk => ?_, ⟨?_, ?_⟩, Or.inl ?_, f2, f3⟩, oA.fr (fun c k z => k7_own z), oJ.fr (fun c k z => k7_own z), Ptape_k7 oA⟩
    · unfold F_Mo_strike
      rw [hw1.1, m_isB, bd_s, rgb_rng (by omega), hx, b2i_ifn, cond_true, vqT (show i < 121 by omega) (by omega), nI_clamp (by omega), (hw1.2.1 i hi).1, cond_true, c1, f1, bd_s, f3.1]
      rfl
    · show s.1 - 1 ≤ 120; omega
    · exact hc.2.2.1 _ _ (skp_mono hjk) (skp_lt o1 hk).1
    · exact hc.2.2.2.1 _ (skp_lt o1 hk).1
    · rw [oB 89 6 (by omega)]
      have e : (pm_up I1 95 8 1) 89 6 = I1 89 6 := rfl
      rw [e, a5 89 6 (by omega)]; rfl
    · rw [oB 89 7 (by omega)]
      have e : (pm_up I1 95 8 1) 89 7 = I1 89 7 := rfl
      rw [e, a5 89 7 (by omega)]
      exact hc.2.2.2.2.2.1
    · have hk' : k < s.1 - 1 := hk
      obtain ⟨g1, g2⟩ := skp_lt o1 hk'
      obtain ⟨d1, d2, d3⟩ := hc.2.2.2.2.2.2 _ g1
      have er := rml_rk ho o1 hk'
      rw [o2] at er
      have hrl : rkl s (skp (oL s i) k) < s.1 := rk_lt g1
      have hne : ¬ rkl s (skp (oL s i) k) = i := by
        intro z
        exact g2 (rk_inj ho.1 _ _ g1 o1 (z.trans o2.symm))
      have r90 : ∀ j, I3 90 j = if i ≤ j ∧ j < s.1 - 1 then I 90 (j + 1) else I 90 j := fun j => by
        have e1 : (pm_up I1 95 8 1) 90 j = I1 90 j := by rw [ur, if_neg (by omega)]
        have e2 : ∀ q, (pm_up I 89 6 (nI (s.1 - 1))) 90 q = I 90 q := fun q => by rw [ur, if_neg (by omega)]
        rw [oB 90 j (by omega), e1, a2, e2, e2]
      have r92 : ∀ j, I3 92 j = if i ≤ j ∧ j < s.1 - 1 then I 92 (j + 1) else I 92 j := fun j => by
        have e1 : (pm_up I1 95 8 1) 92 j = I1 92 j := by rw [ur, if_neg (by omega)]
        have e2 : ∀ q, (pm_up I 89 6 (nI (s.1 - 1))) 92 q = I 92 q := fun q => by rw [ur, if_neg (by omega)]
        rw [oB 92 j (by omega), e1, a3, e2, e2]
      have r91 : ∀ j, J2 91 j = if i ≤ j ∧ j < s.1 - 1 then J 91 (j + 1) else J 91 j := fun j => by
        rw [c5 91 j (by omega)]; exact a4 j
      show I3 90 (rkl (rml s (oL s i)) k) = nI (s.2.1 (skp (oL s i) k)) ∧ J2 91 (rkl (rml s (oL s i)) k) = s.2.2 (skp (oL s i) k) ∧ I3 92 (rkl (rml s (oL s i)) k) = nI (cm (skp (oL s i) k))
      have d1' : I 90 (rkl s (skp (oL s i) k)) = nI (s.2.1 (skp (oL s i) k)) := d1
      have d2' : J 91 (rkl s (skp (oL s i) k)) = s.2.2 (skp (oL s i) k) := d2
      have d3' : I 92 (rkl s (skp (oL s i) k)) = nI (cm (skp (oL s i) k)) := d3
      rw [r90, r91, r92]
      by_cases q : i < rkl s (skp (oL s i) k)
      · rw [decide_eq_true q] at er
        have er' : rkl s (skp (oL s i) k) = rkl (rml s (oL s i)) k + 1 := er
        rw [if_pos (by omega), if_pos (by omega), if_pos (by omega), ← er']
        exact ⟨d1', d2', d3'⟩
      · rw [decide_eq_false q] at er
        have er' : rkl s (skp (oL s i) k) = rkl (rml s (oL s i)) k := er
        rw [if_neg (by omega), if_neg (by omega), if_neg (by omega), ← er']
        exact ⟨d1', d2', d3'⟩
    · rw [f4 162 k (by unfold kMO kMB; omega)]; exact hLM k hk
    · rw [oB 95 5 (by omega)]
      have e : (pm_up I1 95 8 1) 95 5 = I1 95 5 := rfl
      rw [e, a5 95 5 (by omega)]; exact h5
    · rw [oB 95 6 (by omega)]
      have e : (pm_up I1 95 8 1) 95 6 = I1 95 6 := rfl
      rw [e, a5 95 6 (by omega)]; exact h6
    · rw [oB 95 8 (by omega)]
      show ¬ (1 : Int32) = 0
      decide
end Strike
