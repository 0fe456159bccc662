/-! ===== jobs: the search finds the first best ===== -/
section Search2
variable {u n : Nat} {col pr bi du : Nat → Nat} {ch dr : Nat} {J : pm_JJ}
theorem j_max0 {I : pm_II} {x y : Nat} (hx : x < 2 ^ 30) (hy : y < 2 ^ 30) : F_Jm_max u (0 : Int32) (nI x - nI y) I J = some (nI (x - y), I, J) := by
  rw [j_max]
  have h1 : (nI x - nI y).toInt = (x : Int) - y := pk_sub_toInt (by omega) (by omega)
  by_cases c : y ≤ x
  · rw [pk_sub c, if_pos (Int32.not_lt.mp (nI_pos (by omega)))]
  · have : ¬ (0 : Int32) ≤ nI x - nI y := by
      rw [Int32.le_iff_toInt_le, h1]
      show ¬ (0 : Int) ≤ _
      omega
    rw [if_neg this, show x - y = 0 by omega]; rfl
def NSt (n : Nat) (col pr bi du : Nat → Nat) (ch dr k w : Nat) (I : pm_II) : Prop := JC n col pr bi du ch dr I ∧ (∀ j, j < k → I 107 j = nI (sq n w j)) ∧ ∀ i, i < n → I 108 i = b2i (decide (1 ≤ pcn (sq n w) k i))
theorem pcn_c {f g : Nat → Nat} {k i : Nat} (h : ∀ j, j < k → f j = g j) : pcn f k i = pcn g k i := cnt_c k (fun j hj => by rw [h j hj])
theorem pcn_s {f : Nat → Nat} {k i : Nat} : pcn f (k + 1) i = pcn f k i + (decide (f k = i)).toNat := rfl
theorem w_search (hu : 100 ≤ u) (hb : JB n col pr bi du ch dr) (hn1 : 0 < n) : ∀ (m k a N : Nat) (b : BO) (I : pm_II), k + m = n → m < N → NSt n col pr bi du ch dr k (a * n ^ m) I → injP (sq n (a * n ^ m)) k → BC n b I → ∃ I2, F_Wo_search_r u N (nI k) (nI (tl col pr bi du ch dr (sq n (a * n ^ m)) k).1) (nI (tl col pr bi du ch dr (sq n (a * n ^ m)) k).2.1) (nI (tl col pr bi du ch dr (sq n (a * n ^ m)) k).2.2) I J = some ((), I2, J) ∧ BC n (fol col pr bi du ch dr n (a * n ^ m) (n ^ m) b) I2 ∧ (∀ i, i < n → I2 108 i = I 108 i) ∧ (∀ j, j < k → I2 107 j = I 107 j) ∧ On kS I I2 := by
  have hn := hb.1
  have tb : ∀ (σ : Nat → Nat) k, k ≤ 6 → (tl col pr bi du ch dr σ k).1 < 10000 ∧ (tl col pr bi du ch dr σ k).2.1 < 10000 ∧ (tl col pr bi du ch dr σ k).2.2 < 100000 := by
    intro σ k hk
    have h := tl_le col pr bi du ch dr (σ := σ) (fun j => (hb.2.1 j).2.1) (fun j => (hb.2.1 j).2.2.1) hb.2.2.1 hb.2.2.2 k
    have : (248 * k + 50) * k ≤ 1538 * 6 := Nat.mul_le_mul (by omega) (by omega)
    omega
  intro m
  induction m with
  | zero =>
    intro k a N b I hk hN hst hinj hbc
    obtain ⟨N, rfl⟩ : ∃ z, N = z + 1 := ⟨N - 1, by omega⟩
    have hkn : k = n := by omega
    subst hkn
    obtain ⟨hj, ht, hus⟩ := hst
    rw [Nat.pow_zero, Nat.mul_one] at *
    obtain ⟨t1, t2, t3⟩ := tb (sq k a) k hn
    rw [F_Wo_search_r, bc_if t3 (by omega) hbc]
    have hprm : prm k a = true := decide_eq_true (inj_onto (fun j _ => sq_lt hn1) hinj)
    have ef : fol col pr bi du ch dr k a 1 b = cond (lth (tl col pr bi du ch dr (sq k a) k).2.2 (tl col pr bi du ch dr (sq k a) k).2.1 b) (some ((tl col pr bi du ch dr (sq k a) k).2.2, (tl col pr bi du ch dr (sq k a) k).2.1, a)) b := by
      show upd1 col pr bi du ch dr k a b = _
      unfold upd1
      rw [hprm, Bool.true_and]
    rw [ef]
    cases hl : lth (tl col pr bi du ch dr (sq k a) k).2.2 (tl col pr bi du ch dr (sq k a) k).2.1 b with
    | false => exact ⟨I, rfl, hbc, fun _ _ => rfl, fun _ _ => rfl, On.refl _⟩
    | true =>
      obtain ⟨I2, e1, e2, e3, e4, e5⟩ := w_keep (u := u) (I := I) (J := J) (o := (tl col pr bi du ch dr (sq k a) k).2.1) (l := (tl col pr bi du ch dr (sq k a) k).2.2) (by omega)
      refine ⟨I2, ?_, ⟨e2, e3, t3, by omega, fun j hj2 => by rw [e4 j (by omega)]; exact ht j hj2⟩, fun i hi => e5 108 i (by omega), fun j hj2 => e5 107 j (by omega), e5.mono (fun c k hc => by unfold kS; omega)⟩
      unfold F_Wo_search_27 F_Wo_search_41
      simp only [cond_true]
      rw [hj.1, if_pos (by rw [nI_leI (by omega) (by omega)]; omega), e1, bd_s]
  | succ m ih =>
    intro k a N b I hk hN hst hinj hbc
    obtain ⟨N, rfl⟩ : ∃ z, N = z + 1 := ⟨N - 1, by omega⟩
    obtain ⟨t1, t2, t3⟩ := tb (sq n (a * n ^ (m + 1))) k (by omega)
    rw [F_Wo_search_r, bc_if t3 (by omega) hbc]
    cases hl : lth (tl col pr bi du ch dr (sq n (a * n ^ (m + 1))) k).2.2 (tl col pr bi du ch dr (sq n (a * n ^ (m + 1))) k).2.1 b with
    | false =>
      rw [fol_prune col pr bi du ch dr hk hl]
      exact ⟨I, rfl, hbc, fun _ _ => rfl, fun _ _ => rfl, On.refl _⟩
    | true =>
      have loop : ∀ (d i Nf : Nat) (b : BO) (I : pm_II), i + d = n → d < Nf → NSt n col pr bi du ch dr k (a * n ^ (m + 1)) I → BC n b I → ∃ I2, F_Wo_search_52 u (F_Wo_search_r u N) Nf (nI k) (nI (tl col pr bi du ch dr (sq n (a * n ^ (m + 1))) k).1) (nI (tl col pr bi du ch dr (sq n (a * n ^ (m + 1))) k).2.1) (nI (tl col pr bi du ch dr (sq n (a * n ^ (m + 1))) k).2.2) (nI i) I J = some ((), I2, J) ∧ BC n (fol col pr bi du ch dr n ((a * n + i) * n ^ m) (d * n ^ m) b) I2 ∧ (∀ i, i < n → I2 108 i = I 108 i) ∧ (∀ j, j < k → I2 107 j = I 107 j) ∧ On kS I I2 := by
        intro d
        induction d with
        | zero =>
          intro i Nf b I hi hNf hst hbc
          obtain ⟨Nf, rfl⟩ : ∃ z, Nf = z + 1 := ⟨Nf - 1, by omega⟩
          refine ⟨I, ?_, by rw [Nat.zero_mul]; exact hbc, fun _ _ => rfl, fun _ _ => rfl, On.refl _⟩
          rw [F_Wo_search_52, hst.1.1, if_pos (by rw [nI_leI (by omega) (by omega)]; omega)]; rfl
        | succ d ihd =>
          intro i Nf b I hi hNf hst hbc
          obtain ⟨Nf, rfl⟩ : ∃ z, Nf = z + 1 := ⟨Nf - 1, by omega⟩
          obtain ⟨hj, ht, hus⟩ := hst
          have hin : i < n := by omega
          have ef : fol col pr bi du ch dr n ((a * n + i) * n ^ m) ((d + 1) * n ^ m) b = fol col pr bi du ch dr n ((a * n + (i + 1)) * n ^ m) (d * n ^ m) (fol col pr bi du ch dr n ((a * n + i) * n ^ m) (n ^ m) b) := by
            rw [show (d + 1) * n ^ m = n ^ m + d * n ^ m by rw [Nat.add_mul]; omega, fol_add]
            rw [show (a * n + i) * n ^ m + n ^ m = (a * n + (i + 1)) * n ^ m by rw [← Nat.add_assoc, Nat.succ_mul]]
          rw [F_Wo_search_52, hj.1, if_neg (by rw [nI_leI (by omega) (by omega)]; omega), show (6 : Int32) = nI 6 from rfl, if_neg (by rw [nI_leI (by omega) (by omega)]; omega), vqT (show i < 6 by omega) (by omega), vqT (show k < 6 by omega) (by omega), nI_clamp (by omega), nI_clamp (by omega), hus i hin, ef]
          have hnew := sq_new (a := a) hk hin
          have hold : ∀ j, j < k → sq n ((a * n + i) * n ^ m) j = sq n (a * n ^ (m + 1)) j := fun j hj2 => sq_old hk hin hj2
          have hpo : ∀ x, pcn (sq n ((a * n + i) * n ^ m)) k x = pcn (sq n (a * n ^ (m + 1))) k x := fun x => pcn_c hold
          by_cases hused : 1 ≤ pcn (sq n (a * n ^ (m + 1))) k i
          · rw [decide_eq_true hused]
            simp only [cond_true]
            rw [if_pos (by decide), nI_io1, nI_add]
            have hdup : ¬ injP (sq n ((a * n + i) * n ^ m)) (k + 1) := by
              intro z
              obtain ⟨j, hj2, e⟩ := (cnt_pos k).mp hused
              have e' : sq n (a * n ^ (m + 1)) j = i := of_decide_eq_true e
              have := z j k (by omega) (by omega) (by rw [hold j hj2, e', hnew])
              omega
            rw [fol_dup col pr bi du ch dr (show (k + 1) + m = n by omega) hdup]
            exact ihd (i + 1) Nf b I (by omega) (by omega) ⟨hj, ht, hus⟩ hbc
          · rw [decide_eq_false hused]
            simp only [cond_true]
            rw [if_neg (by decide)]
            generalize hI1 : pm_up (pm_up I 108 i 1) 107 k (nI i) = I1
            have o1 : On (fun c x => (c = 107 ∧ x = k) ∨ (c = 108 ∧ x = i)) I I1 := by
              rw [← hI1]
              refine On.up (On.up (On.refl _) ?_) ?_ <;> simp
            have hj1 : JC n col pr bi du ch dr I1 := hj.on o1 (by omega) (by omega) (by omega) (fun c x h1 h2 => by omega)
            have hr1 : ∀ j, j ≤ k → I1 107 j = nI (sq n ((a * n + i) * n ^ m) j) ∧ sq n ((a * n + i) * n ^ m) j < n := by
              intro j hj2
              refine ⟨?_, sq_lt hn1⟩
              by_cases q : j = k
              · subst q
                rw [hnew, ← hI1, ur, if_pos ⟨rfl, rfl⟩]
              · rw [o1 107 j (by omega), hold j (by omega)]
                exact ht j (by omega)
            obtain ⟨p1, p2, p3, p4⟩ := hj1.2.2.2 i hin
            have b0 := hb.2.1 i
            have etl : tl col pr bi du ch dr (sq n ((a * n + i) * n ^ m)) k = tl col pr bi du ch dr (sq n (a * n ^ (m + 1))) k := tl_c col pr bi du ch dr k hold
            generalize hT : tl col pr bi du ch dr (sq n (a * n ^ (m + 1))) k = T at *
            generalize hcg : cond (chg col (sq n ((a * n + i) * n ^ m)) k) ch 0 = cg
            have hcg50 : cg ≤ 50 := by rw [← hcg]; have := hb.2.2.1; cases chg col (sq n ((a * n + i) * n ^ m)) k <;> simp <;> omega
            have eT : tl col pr bi du ch dr (sq n ((a * n + i) * n ^ m)) (k + 1) = (T.1 + cg + pr i, max (T.1 + cg + pr i + dr) T.2.1 + bi i, T.2.2 + (max (T.1 + cg + pr i + dr) T.2.1 + bi i - du i)) := by
              rw [tl, etl, hcg, hnew]
            have hdr := hb.2.2.2
            have hst1 : NSt n col pr bi du ch dr (k + 1) ((a * n + i) * n ^ m) I1 := by
              refine ⟨hj1, fun j hj2 => (hr1 j (by omega)).1, fun x hx => ?_⟩
              rw [pcn_s, hpo, hnew]
              by_cases q : x = i
              · subst q
                rw [← hI1, ur, if_neg (by omega), ur, if_pos ⟨rfl, rfl⟩, decide_eq_true (p := x = x) rfl, decide_eq_true (by simp)]; rfl
              · rw [o1 108 x (by omega), hus x hx, decide_eq_false (p := i = x) (by omega)]; rfl
            have hinj1 : injP (sq n ((a * n + i) * n ^ m)) (k + 1) := by
              intro x y hx hy e
              by_cases q1 : x = k
              · by_cases q2 : y = k
                · omega
                · exfalso
                  subst q1
                  rw [hnew, hold y (by omega)] at e
                  exact hused ((cnt_pos x).mpr ⟨y, by omega, decide_eq_true e.symm⟩)
              · by_cases q2 : y = k
                · exfalso
                  subst q2
                  rw [hnew, hold x (by omega)] at e
                  exact hused ((cnt_pos y).mpr ⟨x, by omega, decide_eq_true e⟩)
                · rw [hold x (by omega), hold y (by omega)] at e
                  exact hinj x y (by omega) (by omega) e
            have hbc1 : BC n b I1 := hbc.on (o1 101 11 (by omega)) (o1 101 12 (by omega)) (fun x hx => o1 106 x (by omega))
            obtain ⟨I2, i1, i2, i3, i4, i5⟩ := ih (k + 1) (a * n + i) N b I1 (by omega) (by omega) hst1 hinj1 hbc1
            rw [eT] at i1
            dsimp only at i1
            rw [w_ahead (Or.inr rfl) hj1 hb (by omega) hr1, bd_s, hcg, p2, hj1.2.2.1, nI_add, nI_add, nI_add, j_maxN (by omega) (by omega), bd_s, p3, p4, nI_add, j_max0 (by omega) (by omega), bd_s, nI_add, nI_1, p2, nI_add, i1, bd_s, nI_io1, nI_add]
            have hst2 : NSt n col pr bi du ch dr k (a * n ^ (m + 1)) (pm_up I2 108 i 0) := by
              refine ⟨?_, fun j hj2 => ?_, fun x hx => ?_⟩
              · refine (hj1.on (i5) ?_ ?_ ?_ ?_).on (On.up (S := fun c x => c = 108) (On.refl _) rfl) (by omega) (by omega) (by omega) (fun c x h1 h2 => by omega)
                · unfold kS; omega
                · unfold kS; omega
                · unfold kS; omega
                · intro c x h1 h2; unfold kS; omega
              · rw [ur, if_neg (by omega), i4 j (by omega), o1 107 j (by omega)]; exact ht j hj2
              · rw [ur]
                by_cases q : x = i
                · subst q
                  rw [if_pos ⟨rfl, rfl⟩, decide_eq_false hused]; rfl
                · rw [if_neg (fun z => q z.2), i3 x hx, o1 108 x (by omega)]; exact hus x hx
            have hbc2 : BC n (fol col pr bi du ch dr n ((a * n + i) * n ^ m) (n ^ m) b) (pm_up I2 108 i 0) := i2.on (by rw [ur, if_neg (by omega)]) (by rw [ur, if_neg (by omega)]) (fun x hx => by rw [ur, if_neg (by omega)])
            obtain ⟨I3, g1, g2, g3, g4, g5⟩ := ihd (i + 1) Nf _ (pm_up I2 108 i 0) (by omega) (by omega) hst2 hbc2
            refine ⟨I3, g1, g2, fun x hx => ?_, fun j hj2 => ?_, ?_⟩
            · rw [g3 x hx, hst2.2.2 x hx, hus x hx]
            · rw [g4 j hj2, hst2.2.1 j hj2, ht j hj2]
            · refine On.trans (On.trans (o1.mono (fun c x hc => by unfold kS; omega)) i5) (On.trans (On.up (On.refl _) (by unfold kS; omega)) g5)
      obtain ⟨I2, e1, e2, e3, e4, e5⟩ := loop n 0 u b I (by omega) (by omega) hst hbc
      refine ⟨I2, ?_, ?_, e3, e4, e5⟩
      · unfold F_Wo_search_27
        simp only [cond_true]
        rw [hst.1.1, if_neg (by rw [nI_leI (by omega) (by omega)]; omega), show (6 : Int32) = nI 6 from rfl, if_pos (by rw [nI_ltI (by omega) (by omega)]; omega)]
        exact e1
      · have q1 : (a * n + 0) * n ^ m = a * n ^ (m + 1) := by rw [Nat.add_zero, Nat.pow_succ, Nat.mul_assoc, Nat.mul_comm n]
        have q2 : n * n ^ m = n ^ (m + 1) := by rw [Nat.pow_succ, Nat.mul_comm]
        rw [q1, q2] at e2
        exact e2
end Search2
