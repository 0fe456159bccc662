/-! ===== mount: both sides ===== -/
section Mount2
variable {u : Nat} {I : pm_II} {J : pm_JJ} {R C s wy cal : Nat} {lf sk : Nat → Nat} {tn tb : Nat → Bool}
theorem m_m39 {t d : Nat} (hu : 100 ≤ u) (ht : t < s) (hd : d ≤ 1) (T : Nat → Int32) : ∀ (e z N : Nat) (I : pm_II) (J : pm_JJ), Q2 R C s wy cal lf sk tn tb I → P3 I → I 37 = T → I 120 32 = nI C → z + e = C → e < N → ∃ I2 J2, F_Mo_mount_39 u N (nI t) (nI d) (nI z) I J = some (nI C, I2, J2) ∧ (∀ y, z ≤ y → y < C → I2 140 y = nI (cnt (tf T R C s wy lf tn tb t d y) (64 * R)) ∧ I2 141 y = 0 ∧ J2 143 y = lN 0 ∧ J2 144 y = lN 0 ∧ J2 145 y = lN 0) ∧ On (fun c k => (140 ≤ c ∧ c ≤ 141) ∧ (z ≤ k ∧ k < C)) I I2 ∧ On (fun c k => (143 ≤ c ∧ c ≤ 145) ∧ (z ≤ k ∧ k < C)) J J2 := by
  intro e
  induction e with
  | zero =>
    intro z N I J h h3 hT h32 hz hN
    obtain ⟨N, rfl⟩ : ∃ w, N = w + 1 := ⟨N - 1, by omega⟩
    have b := h.1
    refine ⟨I, J, ?_, fun y a b => by omega, On.refl _, On.refl _⟩
    rw [F_Mo_mount_39, h32, if_pos (by rw [nI_leI (by omega) (by omega)]; omega)]
  | succ e ih =>
    intro z N I J h h3 hT h32 hz hN
    obtain ⟨N, rfl⟩ : ∃ w, N = w + 1 := ⟨N - 1, by omega⟩
    have b := h.1
    generalize hJ1 : (pm_up (pm_up (pm_up J 143 z (Int64.ofNat 0)) 144 z (Int64.ofNat 0)) 145 z (Int64.ofNat 0)) = J1
    have oJ : On (fun c k => (143 ≤ c ∧ c ≤ 145) ∧ k = z) J J1 := by
      rw [← hJ1]
      refine On.up (On.up (On.up (On.refl _) ?_) ?_) ?_ <;> simp
    have oI0 : On (fun c k => (140 ≤ c ∧ c ≤ 141) ∧ k = z) I (pm_up I 141 z 0) := On.up (On.refl _) (by simp)
    generalize hI1 : pm_up (pm_up I 141 z 0) 140 z (nI (cnt (tf T R C s wy lf tn tb t d z) (64 * R))) = I1
    have oI : On (fun c k => (140 ≤ c ∧ c ≤ 141) ∧ k = z) I I1 := by rw [← hI1]; exact On.up oI0 (by simp)
    have hQ1 : Q2 R C s wy cal lf sk tn tb I1 := Q2_c h (fun c k hc => oI c k (by omega))
    have h31 : P3 I1 := ⟨fun i hi => by rw [oI 37 i (by omega), oI 136 i (by omega)]; exact h3.1 i hi, fun j hj => by rw [oI 138 j (by omega)]; exact h3.2 j hj⟩
    obtain ⟨I2, J2, i1, i2, i3, i4⟩ := ih (z + 1) N I1 J1 hQ1 h31 (by rw [← hT]; funext k; exact oI 37 k (by omega)) (by rw [oI 120 32 (by omega)]; exact h32) (by omega) (by omega)
    refine ⟨I2, J2, ?_, fun y a b => ?_, (oI.mono (fun c k hc => by omega)).trans (i3.mono (fun c k hc => by omega)), (oJ.mono (fun c k hc => by omega)).trans (i4.mono (fun c k hc => by omega))⟩
    · rw [F_Mo_mount_39, h32, if_neg (by rw [nI_leI (by omega) (by omega)]; omega), vqT (show z < 8 by omega) (by omega), nI_clamp (by omega)]
      simp only [cond_true]
      have e0 : pm_up (pm_up I 140 z 0) 141 z 0 = pm_up (pm_up I 141 z 0) 140 z 0 := by
        funext c k
        simp only [ur]
        by_cases q : c = 141 ∧ k = z
        · rw [if_pos q, if_neg (by omega), if_pos q]
        · rw [if_neg q, if_neg q]
      rw [e0, hJ1]
      have h85 := m_m85 (u := u) (J := J1) (K39 := F_Mo_mount_39 u N) (I := pm_up I 141 z 0) (t := t) (d := d) (z := z) hu h h3 ht hd (by omega) (8 * R) 0 u (by omega) (by omega)
      have q0 : (pm_up I 141 z 0) 37 = T := hT
      rw [q0, hI1] at h85
      exact h85.trans i1
    · by_cases q : y = z
      · subst q
        rw [i3 140 y (by omega), i3 141 y (by omega), i4 143 y (by omega), i4 144 y (by omega), i4 145 y (by omega), ← hI1, ← hJ1]
        simp [ur]
        rfl
      · exact i2 y (by omega) b
theorem st_mount {x y : Int32} (hu : 200 ≤ u) (h2 : P2 I) (h3 : P3 I) (h4 : P4 I J) : St4 u (F_Ph_mount u x y) (F_Mo_mount u x y) I J := by
  have hP := h4
  obtain ⟨R, C, s, wy, cal, lf, sk, tn, tb, h⟩ := h2
  have b := h.1
  have e1 : F_Ph_mount u x y I J = cond (rng x s && rgb y 0 1) (bd (F_Fo_columns u I J) fun r18 I18 J18 => bd (F_Pr_clear u r18 I18 J18) fun _ I27 J27 => F_Ph_mount_33 u u x y r18 (0 : Int32) I27 J27) (some (-1, I, J)) := by
    unfold F_Ph_mount
    rw [c_hasSide h, bd_s, b2i_ifn]
  have e2 : ∀ I1, Q2 R C s wy cal lf sk tn tb I1 → F_Mo_mount u x y I1 J = cond (rng x s && rgb y 0 1) (F_Mo_mount_39 u u x y (0 : Int32) (pm_up (pm_up (pm_up (pm_up I1 120 32 (I1 120 19)) 120 33 (I1 120 18)) 120 37 0) 120 38 0) J) (some (-1, I1, J)) := by
    intro I1 hI1
    unfold F_Mo_mount
    rw [m_isSide hI1, bd_s, b2i_ifn]
  cases hx : (rng x s && rgb y 0 1) with
  | false =>
    rw [hx] at e1
    exact st4_same hP e1 (by rw [e2 I h, hx]; rfl)
  | true =>
    have hx2 := hx
    simp only [Bool.and_eq_true] at hx2
    obtain ⟨t, ht, rfl⟩ := rng_n (by omega) hx2.1
    obtain ⟨d, _, hd, rfl⟩ := rgb_n (lo := 0) (hi := 1) (by omega) (by omega) hx2.2
    obtain ⟨Z, ZR, aim, tol, spo, key, cov, q, hb, hc, hm⟩ := h4
    -- the class
    generalize hI0 : sr (pm_up (pm_up (pm_up I 39 8 (nI C)) 39 12 0) 39 13 0) 47 (zr (I 47) 126) = I0
    have o0 : On (fun c k => (c = 39 ∧ (k = 8 ∨ k = 12 ∨ k = 13)) ∨ c = 47) I I0 := by
      rw [← hI0]
      refine On.sr (On.up (On.up (On.up (On.refl _) ?_) ?_) ?_) ?_
      · omega
      · omega
      · omega
      · intro k; omega
    have hQ0 : Q2 R C s wy cal lf sk tn tb I0 := Q2_c h (fun c k hc => o0 c k (by omega))
    obtain ⟨I1, i1, i2, i3⟩ := c_mount33 (u := u) (J := J) (t := t) (d := d) (by omega) ht hd (I 37) C 0 u I0 hQ0 (funext fun k => o0 37 k (by omega)) (by omega) (by omega)
    have cls : F_Ph_mount u (nI t) (nI d) I J = some (nI C, I1, J) := by
      rw [e1, hx]
      unfold F_Fo_columns F_Pr_clear
      simp only [cond_true]
      rw [bd_s, h.2.1.2.1, nl_8, j_minN (by omega) (by omega), bd_s, Nat.min_eq_left (by omega)]
      have := c_clear22 (u := u) (I := pm_up (pm_up (pm_up I 39 8 (nI C)) 39 12 0) 39 13 0) (J := J) 126 0 u (I 47) (by omega) (by omega)
      rw [zr_0, hI0] at this
      have e47 : sr (pm_up (pm_up (pm_up I 39 8 (nI C)) 39 12 0) 39 13 0) 47 (I 47) = pm_up (pm_up (pm_up I 39 8 (nI C)) 39 12 0) 39 13 0 := sr_id (pm_up (pm_up (pm_up I 39 8 (nI C)) 39 12 0) 39 13 0) 47
      rw [e47] at this
      rw [nl_0, ← nl_0]
      show (bd (F_Pr_clear_22 u u (nI 0) _ J) fun _ I27 J27 => F_Ph_mount_33 u u (nI t) (nI d) (nI C) (nI 0) I27 J27) = _
      rw [this, bd_s]
      exact i1
    have o1 : On (fun c k => 39 ≤ c ∧ c ≤ 47) I I1 := (o0.mono (fun c k hc => by omega)).trans (i3.mono (fun c k hc => by omega))
    -- the model
    have hQ1 : Q2 R C s wy cal lf sk tn tb I1 := Q2_c h (fun c k hc => o1 c k (by omega))
    have h31 : P3 I1 := ⟨fun i hi => by rw [o1 37 i (by omega), o1 136 i (by omega)]; exact h3.1 i hi, fun j hj => by rw [o1 138 j (by omega)]; exact h3.2 j hj⟩
    have hm1 : QM Z ZR aim tol spo key cov q I1 J := hm.on (o1.mono (fun c k z => by unfold cLo; omega))
    obtain ⟨I2, J2, j1, j2, j3, j4⟩ := m_m39 (u := u) (t := t) (d := d) (by omega) ht hd (I 37) C 0 u (pm_up (pm_up (pm_up (pm_up I1 120 32 (nI C)) 120 33 (nI R)) 120 37 0) 120 38 0) J hQ1 h31 (funext fun k => o1 37 k (by omega)) rfl (by omega) (by omega)
    have oM0 : On k4 I1 (pm_up (pm_up (pm_up (pm_up I1 120 32 (nI C)) 120 33 (nI R)) 120 37 0) 120 38 0) := by
      refine On.up (On.up (On.up (On.up (On.refl _) ?_) ?_) ?_) ?_ <;> (unfold k4; omega)
    have o2 : On k4 I I2 := ((o1.mono (fun c k hc => by unfold k4; omega)).trans oM0).trans (j3.mono (fun c k hc => by unfold k4; omega))
    have lo2 : ∀ c k, c < 120 → I2 c k = I1 c k := by
      intro c k hc
      rw [j3 c k (by omega), ur, if_neg (by omega), ur, if_neg (by omega), ur, if_neg (by omega), ur, if_neg (by omega)]
    have hi2 : ∀ k, I2 120 k = (pm_up (pm_up (pm_up (pm_up I1 120 32 (nI C)) 120 33 (nI R)) 120 37 0) 120 38 0) 120 k := fun k => j3 120 k (by omega)
    refine ⟨nI C, I1, I2, J2, cls, ?_, ⟨C, R, aim, tol, spo, key, fun z => cnt (tf (I 37) R C s wy lf tn tb t d z) (64 * R), (fun _ => 0, fun _ => 0, fun _ => 0, fun _ => 0, fun _ => false, 0, 0), ?_, ?_, ?_⟩, o2.fr (fun c k z => k4_own z), On.fr j4 (fun c k z => k4_own (by unfold k4; omega)), Ptape_k4 o2⟩
    · rw [e2 I1 hQ1, hx, hQ1.2.2.1.1, hQ1.2.2.1.2.1]
      exact j1
    · refine ⟨⟨by omega, fun _ => by omega, by omega, hb.1.2.2.2.1, hb.1.2.2.2.2.1, hb.1.2.2.2.2.2⟩, hb.2.1, fun z hz => cnt_le _, by simp, fun z hz => by simp, rfl, rfl, fun k hk => rfl⟩
    · have l39 : ∀ k, k ≠ 8 → k ≠ 12 → k ≠ 13 → I2 39 k = I 39 k := fun k a b c => by rw [lo2 39 k (by omega), i3 39 k (by omega), o0 39 k (by omega)]
      have l39' : ∀ k, I2 39 k = I0 39 k := fun k => by rw [lo2 39 k (by omega), i3 39 k (by omega)]
      refine ⟨⟨?_, ?_, ?_, ?_, ?_, ?_⟩, fun z hz => ?_, fun z hz => ?_, fun z hz => ?_, fun w i hw hi => ?_⟩
      · rw [l39', ← hI0]; rfl
      · rw [l39 9 (by omega) (by omega) (by omega)]; exact hc.1.2.1
      · rw [l39 10 (by omega) (by omega) (by omega)]; exact hc.1.2.2.1
      · rw [l39 11 (by omega) (by omega) (by omega)]; exact hc.1.2.2.2.1
      · rw [l39', ← hI0]; rfl
      · rw [l39', ← hI0]; rfl
      · rw [lo2 40 z (by omega), i3 40 z (by omega), o0 40 z (by omega)]; exact hc.2.1 z hz
      · rw [lo2 41 z (by omega), lo2 42 z (by omega)]
        exact ⟨(i2 z (by omega) hz).1, (i2 z (by omega) hz).2.1⟩
      · rw [lo2 43 z (by omega), lo2 44 z (by omega), lo2 45 z (by omega), lo2 46 z (by omega)]
        exact (i2 z (by omega) hz).2.2
      · rw [lo2 47 w (by omega), i3 47 w (by omega), ← hI0, sr_at]
        unfold zr
        rw [if_pos hw]
        show (0#32).getLsbD i = false
        simp
    · have l120 : ∀ k, k ≠ 32 → k ≠ 33 → k ≠ 37 → k ≠ 38 → I2 120 k = I 120 k := fun k a b c d => by
        rw [hi2, ur, if_neg (by omega), ur, if_neg (by omega), ur, if_neg (by omega), ur, if_neg (by omega), o1 120 k (by omega)]
      refine ⟨⟨?_, ?_, ?_, ?_, ?_, ?_, ?_⟩, fun z hz => ?_, fun z hz => ?_, fun z hz => ?_, fun k hk1 hk2 => ?_⟩
      · rw [hi2]; rfl
      · rw [hi2]; rfl
      · rw [l120 34 (by omega) (by omega) (by omega) (by omega)]; exact hm.1.2.2.1
      · rw [l120 35 (by omega) (by omega) (by omega) (by omega)]; exact hm.1.2.2.2.1
      · rw [l120 36 (by omega) (by omega) (by omega) (by omega)]; exact hm.1.2.2.2.2.1
      · rw [hi2]; rfl
      · rw [hi2]; rfl
      · rw [j3 139 z (by omega), ur, if_neg (by omega), ur, if_neg (by omega), ur, if_neg (by omega), ur, if_neg (by omega)]; exact hm1.2.1 z hz
      · exact (j2 z (by omega) hz).1
      · obtain ⟨a1, a2, a3, a4, a5⟩ := j2 z (by omega) hz
        exact ⟨a3, a4, a2, a5⟩
      · dsimp only at hk2; omega
end Mount2
