/-! ===== jobs: the best order on both sides ===== -/
section Best
variable (n : Nat) (col pr bi du : Nat → Nat) (ch dr : Nat)
def GB (b : BO) : Prop := match b with
  | none => True
  | some (l, o, v) => prm n v = true ∧ l = (tl col pr bi du ch dr (sq n v) n).2.2 ∧ o = (tl col pr bi du ch dr (sq n v) n).2.1
theorem GB_upd {v : Nat} {b : BO} (h : GB n col pr bi du ch dr b) : GB n col pr bi du ch dr (upd1 col pr bi du ch dr n v b) := by
  unfold upd1
  cases hp : prm n v && lth (tl col pr bi du ch dr (sq n v) n).2.2 (tl col pr bi du ch dr (sq n v) n).2.1 b with
  | false => exact h
  | true =>
    rw [Bool.and_eq_true] at hp
    exact ⟨hp.1, rfl, rfl⟩
theorem GB_fol : ∀ (k lo : Nat) (b : BO), GB n col pr bi du ch dr b → GB n col pr bi du ch dr (fol col pr bi du ch dr n lo k b)
  | 0, _, _, h => h
  | k + 1, lo, b, h => GB_fol k (lo + 1) _ (GB_upd n col pr bi du ch dr h)
theorem upd_some {v : Nat} {q : Nat × Nat × Nat} : ∃ r, upd1 col pr bi du ch dr n v (some q) = some r := by
  unfold upd1
  cases prm n v && lth (tl col pr bi du ch dr (sq n v) n).2.2 (tl col pr bi du ch dr (sq n v) n).2.1 (some q)
  · exact ⟨q, rfl⟩
  · exact ⟨_, rfl⟩
theorem fol_some : ∀ (k lo : Nat) (q : Nat × Nat × Nat), ∃ r, fol col pr bi du ch dr n lo k (some q) = some r
  | 0, _, q => ⟨q, rfl⟩
  | k + 1, lo, q => by
    obtain ⟨r, e⟩ := upd_some n col pr bi du ch dr (v := lo) (q := q)
    rw [fol, e]
    exact fol_some k (lo + 1) r
theorem fol_ex : ∀ (k lo : Nat) (b : BO), (∃ v, lo ≤ v ∧ v < lo + k ∧ prm n v = true) → ∃ r, fol col pr bi du ch dr n lo k b = some r
  | 0, _, _, ⟨v, h1, h2, _⟩ => by omega
  | k + 1, lo, b, ⟨v, h1, h2, h3⟩ => by
    rw [fol]
    by_cases c : v = lo
    · subst c
      have : ∃ q, upd1 col pr bi du ch dr n v b = some q := by
        cases b with
        | some q => exact upd_some n col pr bi du ch dr
        | none =>
          unfold upd1
          rw [h3]
          exact ⟨_, rfl⟩
      obtain ⟨q, e⟩ := this
      rw [e]
      exact fol_some n col pr bi du ch dr k (v + 1) q
    · exact fol_ex k (lo + 1) _ ⟨v, by omega, by omega, h3⟩
end Best
theorem prm_id (n : Nat) (h : n ≤ 6) : ∃ v : Nat, v < n ^ n ∧ prm n v = true := by
  match n, h with
  | 0, _ => exact ⟨0, by decide +kernel, by decide +kernel⟩
  | 1, _ => exact ⟨0, by decide +kernel, by decide +kernel⟩
  | 2, _ => exact ⟨1, by decide +kernel, by decide +kernel⟩
  | 3, _ => exact ⟨5, by decide +kernel, by decide +kernel⟩
  | 4, _ => exact ⟨27, by decide +kernel, by decide +kernel⟩
  | 5, _ => exact ⟨194, by decide +kernel, by decide +kernel⟩
  | 6, _ => exact ⟨1865, by decide +kernel, by decide +kernel⟩
  | n + 7, h => omega
theorem nn_lt : ∀ n : Fin 7, n.val ^ n.val < 50000 := by decide +kernel
def CV (n : Nat) (col pr bi du : Nat → Nat) (ch dr : Nat) (I : pm_II) : Prop := ∃ v, (∀ k, k < n → sq n v k < n) ∧ ontoP (sq n v) n ∧ (∃ l o, fol col pr bi du ch dr n 0 (n ^ n) none = some (l, o, v)) ∧ I 101 11 = nI (tl col pr bi du ch dr (sq n v) n).2.2 ∧ I 101 12 = nI (tl col pr bi du ch dr (sq n v) n).2.1 ∧ I 101 13 = nI (cnt (chg col (sq n v)) n) ∧ (∀ k, k < n → I 106 k = nI (sq n v k)) ∧ ∀ j w, j < n → w < 5 → I 109 (5 * sq n v j + w) = nI (tv col pr bi du ch dr (sq n v) j w)
def MV (n : Nat) (col pr bi du : Nat → Nat) (ch dr : Nat) (I : pm_II) : Prop := ∃ v, (∀ k, k < n → sq n v k < n) ∧ ontoP (sq n v) n ∧ (∃ l o, fol col pr bi du ch dr n 0 (n ^ n) none = some (l, o, v)) ∧ I 120 88 = nI (tl col pr bi du ch dr (sq n v) n).2.2 ∧ I 120 89 = nI (tl col pr bi du ch dr (sq n v) n).2.1 ∧ I 120 90 = nI (cnt (chg col (sq n v)) n) ∧ (∀ k, k < n → I 173 k = nI (sq n v k)) ∧ ∀ j w, j < n → w < 5 → I 175 (5 * sq n v j + w) = nI (tv col pr bi du ch dr (sq n v) j w)
def kRc (c k : Nat) : Prop := (c = 101 ∧ (11 ≤ k ∧ k ≤ 14)) ∨ (106 ≤ c ∧ c ≤ 109)
def kRm (c k : Nat) : Prop := (c = 120 ∧ (88 ≤ k ∧ k ≤ 91)) ∨ (173 ≤ c ∧ c ≤ 175)
section Best2
variable {u n : Nat} {col pr bi du : Nat → Nat} {ch dr : Nat} {I : pm_II} {J : pm_JJ}
theorem w_r27 : ∀ (d k N : Nat) (g : Nat → Int32), k + d = 6 → d < N → F_Wo_refresh_27 u N (nI k) (sr I 108 (zr g k)) J = bd (F_Wo_search u 0 0 0 0 (sr I 108 (zr g 6)) J) fun _ I51 J51 => bd (F_Wo_writeSchedule u I51 J51) fun _ I55 J55 => some ((), I55, J55) := by
  intro d
  induction d with
  | zero =>
    intro k N g hk hN
    obtain ⟨N, rfl⟩ : ∃ z, N = z + 1 := ⟨N - 1, by omega⟩
    have : k = 6 := by omega
    subst this
    rw [F_Wo_refresh_27, if_pos (by decide)]
  | succ d ih =>
    intro k N g hk hN
    obtain ⟨N, rfl⟩ : ∃ z, N = z + 1 := ⟨N - 1, by omega⟩
    rw [F_Wo_refresh_27, show (6 : Int32) = nI 6 from rfl, if_neg (by rw [nI_leI (by omega) (by omega)]; omega), vqT (show k < 6 by omega) (by omega), cond_true, nI_clamp (by omega), sr_up, zr_s, nI_io1, nI_add]
    exact ih (k + 1) N g (by omega) (by omega)
theorem w_refresh (hu : 100 ≤ u) (hb : JB n col pr bi du ch dr) (hj : JC n col pr bi du ch dr I) (h14 : (I 101 14 = 0 ∧ CV n col pr bi du ch dr I) ∨ I 101 14 = 1) : ∃ I2, F_Wo_refresh u I J = some ((), I2, J) ∧ I2 101 14 = 0 ∧ CV n col pr bi du ch dr I2 ∧ JC n col pr bi du ch dr I2 ∧ On kRc I I2 := by
  have hn := hb.1
  unfold F_Wo_refresh
  rcases h14 with ⟨h14, hcv⟩ | h14
  · rw [h14, if_neg (by decide)]
    exact ⟨I, rfl, h14, hcv, hj, On.refl _⟩
  · rw [h14, if_pos (by decide)]
    generalize hI0 : pm_up (pm_up (pm_up I 101 14 0) 101 11 (Int32.ofNat 1000000)) 101 12 (Int32.ofNat 1000000) = I0
    have o0 : On kRc I I0 := by
      rw [← hI0]
      refine On.up (On.up (On.up (On.refl _) ?_) ?_) ?_ <;> (unfold kRc; omega)
    have e27 := w_r27 (u := u) (I := I0) (J := J) 6 0 u (I0 108) (by omega) (by omega)
    rw [zr_0, sr_id] at e27
    generalize hI1 : sr I0 108 (zr (I0 108) 6) = I1 at e27
    have o1 : On kRc I I1 := by rw [← hI1]; exact On.sr o0 (fun k => by unfold kRc; omega)
    have hj1 : JC n col pr bi du ch dr I1 := hj.on o1 (by unfold kRc; omega) (by unfold kRc; omega) (by unfold kRc; omega) (fun c x h1 h2 => by unfold kRc; omega)
    have b11 : I1 101 11 = nI 1000000 := by rw [← hI1, sr_ne (by omega), ← hI0]; rfl
    have b12 : I1 101 12 = nI 1000000 := by rw [← hI1, sr_ne (by omega), ← hI0]; rfl
    have b14 : I1 101 14 = 0 := by rw [← hI1, sr_ne (by omega), ← hI0]; rfl
    have b108 : ∀ i, i < 6 → I1 108 i = 0 := fun i hi => by rw [← hI1, sr_at]; unfold zr; rw [if_pos hi]
    have hbc : BC n none I1 := ⟨b11, b12⟩
    -- the search
    have hs : ∃ I2, F_Wo_search u 0 0 0 0 I1 J = some ((), I2, J) ∧ BC n (fol col pr bi du ch dr n 0 (n ^ n) none) I2 ∧ On kS I1 I2 := by
      unfold F_Wo_search
      by_cases h0 : n = 0
      · subst h0
        obtain ⟨I2, e1, e2, e3, e4, e5⟩ := w_keep (u := u) (I := I1) (J := J) (o := 0) (l := 0) (by omega)
        refine ⟨I2, ?_, ⟨e2, e3, by show 0 < 100000; omega, by show 0 < 100000; omega, fun k hk => by omega⟩, e5.mono (fun c k hc => by unfold kS; omega)⟩
        show F_Wo_search_r u (9 + 1) (nI 0) (nI 0) (nI 0) (nI 0) I1 J = _
        rw [F_Wo_search_r, bc_if (by omega) (by omega) hbc]
        unfold F_Wo_search_27 F_Wo_search_41
        show (if I1 101 8 ≤ nI 0 then _ else _) = _
        rw [hj1.1, if_pos (by decide), e1, bd_s]
      · have := w_search (u := u) (J := J) hu hb (by omega) n 0 0 10 none I1 (by omega) (by omega) ⟨hj1, fun j hj2 => by omega, fun i hi => by rw [b108 i (by omega)]; rfl⟩ (fun j k hj2 => by omega) hbc
        obtain ⟨I2, e1, e2, e3, e4, e5⟩ := this
        rw [Nat.zero_mul] at e1 e2
        exact ⟨I2, e1, e2, e5⟩
    obtain ⟨I2, s1, s2, s3⟩ := hs
    obtain ⟨w, hw1, hw2⟩ := prm_id n hn
    obtain ⟨r, hr⟩ := fol_ex n col pr bi du ch dr (n ^ n) 0 none ⟨w, by omega, by rw [Nat.zero_add]; exact hw1, hw2⟩
    obtain ⟨l, o, v⟩ := r
    have hg := GB_fol n col pr bi du ch dr (n ^ n) 0 none trivial
    rw [hr] at hg s2
    obtain ⟨g1, g2, g3⟩ := hg
    obtain ⟨c1, c2, c3, c4, c5⟩ := s2
    have hon : ontoP (sq n v) n := by
      unfold prm at g1
      have h := of_decide_eq_true g1
      exact h
    have hlt : ∀ k, k < n → sq n v k < n := fun k hk => sq_lt (by omega)
    have hj2 : JC n col pr bi du ch dr I2 := hj1.on s3 (by unfold kS; omega) (by unfold kS; omega) (by unfold kS; omega) (fun c x h1 h2 => by unfold kS; omega)
    have o13 : On (fun c k => c = 101 ∧ k = 13) I2 (pm_up I2 101 13 0) := On.up (On.refl _) ⟨rfl, rfl⟩
    obtain ⟨I3, t1, t2, t3, t4⟩ := w_sched (u := u) (J := J) (σ := sq n v) hb n 0 u (pm_up I2 101 13 0) (by omega) (by omega) (hj2.on o13 (by omega) (by omega) (by omega) (fun c x h1 h2 => by omega)) (fun j hj3 => ⟨by rw [o13 106 j (by omega)]; exact c5 j hj3, hlt j hj3⟩) (onto_inj hlt hon) rfl (fun j w hj3 => by omega)
    refine ⟨I3, ?_, ?_, ⟨v, hlt, hon, ⟨l, o, hr⟩, ?_, ?_, t2, fun k hk => ?_, t3⟩, ?_, ?_⟩
    · rw [show (0 : Int32) = nI 0 from rfl] at e27 ⊢
      rw [e27]
      rw [show nI 0 = (0 : Int32) from rfl, s1, bd_s]
      unfold F_Wo_writeSchedule
      have t1' : F_Wo_writeSchedule_11 u u 0 0 0 (pm_up I2 101 13 0) J = some ((), I3, J) := t1
      rw [t1', bd_s]
    · rw [t4 101 14 (by omega), o13 101 14 (by omega), s3 101 14 (by unfold kS; omega)]; exact b14
    · rw [t4 101 11 (by omega), o13 101 11 (by omega), c1, g2]
    · rw [t4 101 12 (by omega), o13 101 12 (by omega), c2, g3]
    · rw [t4 106 k (by omega), o13 106 k (by omega)]; exact c5 k hk
    · exact (hj2.on o13 (by omega) (by omega) (by omega) (fun c x h1 h2 => by omega)).on t4 (by omega) (by omega) (by omega) (fun c x h1 h2 => by omega)
    · exact ((o1.trans (s3.mono (fun c k hc => by unfold kS at hc; unfold kRc; omega))).trans (o13.mono (fun c k hc => by unfold kRc; omega))).trans (t4.mono (fun c k hc => by unfold kRc; omega))
theorem m_findOrder (hu : 60000 ≤ u) (hb : JB n col pr bi du ch dr) (hj : JM n col pr bi du ch dr I) (h91 : (I 120 91 = 1 ∧ MV n col pr bi du ch dr I) ∨ I 120 91 = 0) : ∃ I2, F_Mo_findOrder u I J = some ((), I2, J) ∧ I2 120 91 = 1 ∧ MV n col pr bi du ch dr I2 ∧ JM n col pr bi du ch dr I2 ∧ On kRm I I2 := by
  have hn := hb.1
  unfold F_Mo_findOrder
  rcases h91 with ⟨h91, hmv⟩ | h91
  · rw [h91, if_neg (by decide)]
    exact ⟨I, rfl, h91, hmv, hj, On.refl _⟩
  · rw [h91, if_pos rfl]
    have o0 : On kRm I (pm_up I 120 91 1) := On.up (On.refl _) (by unfold kRm; omega)
    have hj0 : JM n col pr bi du ch dr (pm_up I 120 91 1) := hj
    have h25 := m_25 (u := u) (J := J) (x1 := 0) (x2 := 0) (x3 := 0) (I := pm_up I 120 91 1) hn hj0.1 n 0 u (by omega) (by omega)
    have hnn := nn_lt ⟨n, by omega⟩
    dsimp only at hnn
    have hen : ∃ y1 y2 y3 I2, F_Mo_findOrder_52 u u 0 0 0 (nI (n ^ n)) (nI 0) (pm_up I 120 91 1) J = F_Mo_findOrder_234 u I2 J ∧ JM n col pr bi du ch dr I2 ∧ BM n (fol col pr bi du ch dr n 0 (n ^ n) none) y1 y2 y3 I2 ∧ On (fun c k => (c = 120 ∧ (88 ≤ k ∧ k ≤ 90)) ∨ (173 ≤ c ∧ c ≤ 175)) (pm_up I 120 91 1) I2 := by
      by_cases h0 : n = 0
      · subst h0
        refine ⟨nI 0, nI 0, 1, pm_up I 120 91 1, ?_, hj0, ⟨rfl, rfl, rfl, by show 0 < 100000; omega, by show 0 < 100000; omega, fun k hk => by omega⟩, On.refl _⟩
        obtain ⟨N, rfl⟩ : ∃ z, u = z + 1 := ⟨u - 1, by omega⟩
        rw [F_Mo_findOrder_52, if_neg (by decide), hj0.1, if_pos (by decide)]
      · exact m_52 (u := u) (J := J) (by omega) hb (by omega) (by omega) (n ^ n) 0 u none 0 0 0 (pm_up I 120 91 1) (by omega) (by omega) hj0 rfl
    obtain ⟨y1, y2, y3, I2, e1, e2, e3, e4⟩ := hen
    obtain ⟨w, hw1, hw2⟩ := prm_id n hn
    obtain ⟨r, hr⟩ := fol_ex n col pr bi du ch dr (n ^ n) 0 none ⟨w, by omega, by rw [Nat.zero_add]; exact hw1, hw2⟩
    obtain ⟨l, o, v⟩ := r
    have hg := GB_fol n col pr bi du ch dr (n ^ n) 0 none trivial
    rw [hr] at hg e3
    obtain ⟨g1, g2, g3⟩ := hg
    have hon : ontoP (sq n v) n := by
      unfold prm at g1
      have h := of_decide_eq_true g1
      exact h
    have hlt : ∀ k, k < n → sq n v k < n := fun k hk => sq_lt (by omega)
    obtain ⟨I3, f1, f2, f3, f4, f5, f6⟩ := m_runs (u := u) (J := J) (σ := sq n v) (a := 173) (I := I2) (by omega) (Or.inl rfl) hb e2 (fun j hj2 => ⟨e3.2.2.2.2.2 j hj2, hlt j hj2⟩)
    refine ⟨I3, ?_, ?_, ⟨v, hlt, hon, ⟨l, o, hr⟩, f3, f4, f2, fun k hk => ?_, f5 (onto_inj hlt hon)⟩, e2.on f6 (by omega) (by omega) (by omega) (fun c x h1 h2 => by omega), (o0.trans (e4.mono (fun c k hc => by unfold kRm; omega))).trans (f6.mono (fun c k hc => by unfold kRm; omega))⟩
    · refine (h25.trans e1).trans ?_
      unfold F_Mo_findOrder_234
      rw [f1, bd_s]
    · rw [f6 120 91 (by omega), e4 120 91 (by omega)]; rfl
    · rw [f6 173 k (by omega)]; exact e3.2.2.2.2.2 k hk
end Best2
