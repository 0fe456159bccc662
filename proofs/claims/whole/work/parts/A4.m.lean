/-! ===== rolls: the class's table and its plan ===== -/
def Pl (Kn R : Nat) (wid : Nat → Nat) (pl : Nat → Nat → Nat) : Nat → (Nat → Nat) → Nat → Prop
  | 0, _, _ => True
  | n + 1, v, i => Sel Kn R wid n v (pl i) ∧ (∀ q2, Sel Kn R wid n v q2 → cod q2 ≤ cod (pl i)) ∧ Pl Kn R wid pl n (sb v (pl i)) (i + 1)
theorem Pl_c {Kn R : Nat} {wid : Nat → Nat} {pl pl2 : Nat → Nat → Nat} : ∀ n v i, (∀ j, i ≤ j → pl2 j = pl j) → Pl Kn R wid pl n v i → Pl Kn R wid pl2 n v i
  | 0, _, _, _, _ => trivial
  | n + 1, v, i, h, hp => by
    unfold Pl at hp ⊢
    rw [h i (Nat.le_refl _)]
    exact ⟨hp.1, hp.2.1, Pl_c n _ _ (fun j hj => h j (by omega)) hp.2.2⟩
theorem cod_inj {p q : Nat → Nat} (hp : ∀ k, k < 4 → p k ≤ 9) (hq : ∀ k, k < 4 → q k ≤ 9) (h : cod p = cod q) : ∀ k, k < 4 → p k = q k := by
  have a1 := hp 1 (by omega)
  have a2 := hp 2 (by omega)
  have a3 := hp 3 (by omega)
  have b1 := hq 1 (by omega)
  have b2 := hq 2 (by omega)
  have b3 := hq 3 (by omega)
  unfold cod at h
  intro k hk
  rcases k_4 hk with rfl | rfl | rfl | rfl <;> omega
theorem Sel_c {Kn R goal : Nat} {wid v v2 q : Nat → Nat} (h : ∀ k, k < 4 → v2 k = v k) (hs : Sel Kn R wid goal v q) : Sel Kn R wid goal v2 q := ⟨fun k hk => by rw [h k hk]; exact hs.1 k hk, hs.2.1, Cn_c (fun k hk => by unfold sb; rw [h k hk]) hs.2.2⟩
/-- a plan is the only one -/
theorem Pl_u {Kn R : Nat} {wid : Nat → Nat} {pl pl2 : Nat → Nat → Nat} : ∀ n v v2 i, (∀ k, k < 4 → v2 k = v k) → (∀ k, k < 4 → v k ≤ 9) → Pl Kn R wid pl n v i → Pl Kn R wid pl2 n v2 i → ∀ t, t < n → ∀ k, k < 4 → pl (i + t) k = pl2 (i + t) k
  | 0, _, _, _, _, _, _, _, t, ht => by omega
  | n + 1, v, v2, i, hv, h9, h1, h2, t, ht => by
    unfold Pl at h1 h2
    obtain ⟨a1, a2, a3⟩ := h1
    obtain ⟨b1, b2, b3⟩ := h2
    have c1 := b2 _ (Sel_c hv a1)
    have c2 := a2 _ (Sel_c (fun k hk => (hv k hk).symm) b1)
    have e := cod_inj (fun k hk => Nat.le_trans (a1.1 k hk) (h9 k hk)) (fun k hk => by have := b1.1 k hk; rw [hv k hk] at this; exact Nat.le_trans this (h9 k hk)) (show cod (pl i) = cod (pl2 i) by omega)
    cases t with
    | zero => exact e
    | succ t =>
      have := Pl_u n (sb v (pl i)) (sb v2 (pl2 i)) (i + 1) (fun k hk => by unfold sb; rw [hv k hk, e k hk]) (fun k hk => Nat.le_trans (Nat.sub_le _ _) (h9 k hk)) a3 b3 t (by omega)
      rw [show i + (t + 1) = i + 1 + t by omega]
      exact this
section Plan
variable {u : Nat} {J : pm_JJ} {Kn R : Nat} {wid w : Nat → Nat}
def tbl (Kn R : Nat) (wid w : Nat → Nat) (s : Nat) (X : pm_II) : Prop := ∀ z, le4 z w → ix w z < s → ∃ n, n ≤ 16 ∧ X 27 (ix w z) = nI n ∧ Fe Kn R wid n z
theorem Fe_16 (hB : RB Kn R wid w) {z : Nat → Nat} {n : Nat} (hz : le4 z w) (h : Fe Kn R wid n z) : n ≤ 16 := by
  have h1 := (h (s4 z)).mp (Cn_all hB.1.1 (fun k hk => (hB.2.2.1 k hk).2.1) (s4 z) z rfl)
  have h2 := le4_s hz
  have h3 := hB.2.2.2
  omega
theorem ix_0 {z : Nat → Nat} (h : s4 z = 0) : ix w z = 0 := by
  have h0 := s4_0 h
  unfold ix
  rw [h0 0 (by omega), h0 1 (by omega), h0 2 (by omega), h0 3 (by omega)]
  simp
theorem ix_00 {z : Nat → Nat} (hz : le4 z w) (h : ix w z = 0) : s4 z = 0 := by
  have h1 : ix w (fun _ => 0) = 0 := by unfold ix; simp
  have h2 := ix_inj hz (fun _ _ => Nat.zero_le _) (h.trans h1.symm)
  unfold s4
  rw [h2 0 (by omega), h2 1 (by omega), h2 2 (by omega), h2 3 (by omega)]
theorem lss_e1 {z : Nat → Nat} {j : Nat} : ∀ k, k < 4 → sb z (e1 j) k = lss z j 1 k := by
  intro k hk
  unfold sb e1 lss
  split <;> omega
theorem cf34 (hu : 30 ≤ u) (hB : RB Kn R wid w) : ∀ (d s N : Nat) (X : pm_II) (y : Nat → Nat), s + d = ix w w + 1 → d < N → RA Kn R wid w X → le4 y w → (∀ k, k < 4 → X 25 k = nI (y k)) → ix w y + 1 = s → tbl Kn R wid w s X → ∃ Y, F_Ro_countFewest_34 u N (nI (ix w w)) (nI s) X J = some ((), Y, J) ∧ On (fun c _ => 25 ≤ c ∧ c ≤ 27) X Y ∧ tbl Kn R wid w (ix w w + 1) Y := by
  intro d
  have h9 : ∀ k, k < 4 → w k ≤ 9 := fun k hk => (hB.2.2.1 k hk).1
  have hs := hB.2.2.2
  have hix : ∀ z, le4 z w → ix w z ≤ 624 := fun z hz => ix_624 h9 hs hz
  have hww := hix w (le4.refl w)
  induction d with
  | zero =>
    intro s N X y hs2 hN hA hy h25 hiy ht
    obtain ⟨N, rfl⟩ : ∃ z, N = z + 1 := ⟨N - 1, by omega⟩
    refine ⟨X, ?_, On.refl _, ?_⟩
    · rw [F_Ro_countFewest_34, if_pos (by rw [nI_ltI (by omega) (by omega)]; omega)]
    · rw [show ix w w + 1 = s by omega]; exact ht
  | succ d ih =>
    intro s N X y hs2 hN hA hy h25 hiy ht
    obtain ⟨N, rfl⟩ : ∃ z, N = z + 1 := ⟨N - 1, by omega⟩
    obtain ⟨X1, z, a1, a2, a3, a4, a5⟩ := c_step (u := u) (J := J) (by omega) hB hA hy h25 (by omega)
    have hA1 : RA Kn R wid w X1 := hA.on a2 (by omega) (by omega) (fun k => by omega) (fun k => by omega) (fun k => by omega)
    have hzs : ix w z = s := by omega
    have hpos : ¬ s4 z = 0 := fun q => by have := ix_0 (w := w) q; omega
    have hz9 : ∀ k, k < 4 → z k ≤ 9 := fun k hk => Nat.le_trans (a3 k hk) (h9 k hk)
    obtain ⟨j, j1, j2, j3⟩ := c_one (u := u) (J := J) (by omega) hA1 hz9 a4 hpos
    have hlx := ix_lss (w := w) (y := z) (n := 1) j1 j2
    have hsj := sd_le hB j j1
    have hl4 : le4 (lss z j 1) w := fun k hk => Nat.le_trans (by unfold lss; split <;> omega) (a3 k hk)
    have hsd1 : 1 ≤ sd w j := by
      rcases k_4 j1 with rfl | rfl | rfl | rfl
      · exact Nat.mul_pos (Nat.mul_pos (Nat.succ_pos _) (Nat.succ_pos _)) (Nat.succ_pos _)
      · exact Nat.mul_pos (Nat.succ_pos _) (Nat.succ_pos _)
      · exact Nat.succ_pos _
      · exact Nat.le_refl _
    have ht1 : tbl Kn R wid w s X1 := fun y hy hlt => by rw [a2 27 _ (by omega)]; exact ht y hy hlt
    obtain ⟨n1, m1, m2, m3⟩ := ht1 (lss z j 1) hl4 (by omega)
    have m4 : Fe Kn R wid n1 (sb z (e1 j)) := Fe_c lss_e1 m3
    have hwj := (hB.2.2.1 j j1).2.1
    obtain ⟨f1, f2⟩ := Fe_step j1 hB.1.1 hwj j2 m4
    have hhead : F_Ro_countFewest_34 u (N + 1) (nI (ix w w)) (nI s) X J = bd (F_Ro_reaches u (0 : Int32) (nI Kn) (nI R) (nI s) (nI n1 - (1 : Int32)) (pm_up X1 27 s 99) J) fun r86 I86 J86 => if r86 = 0 then (F_Ro_countFewest_34 u N (nI (ix w w)) (nI (s + 1)) (pm_up I86 27 s (nI (n1 + 1))) J86) else (F_Ro_countFewest_34 u N (nI (ix w w)) (nI (s + 1)) (pm_up I86 27 s (nI n1)) J86) := by
      rw [F_Ro_countFewest_34, if_neg (by rw [nI_ltI (by omega) (by omega)]; omega), a1, bd_s, j3, bd_s, pk_sub (by omega), show (0 : Int32) = nI 0 from rfl, j_maxN (by omega) (by omega), bd_s, show max 0 (s - sd w j) = ix w (lss z j 1) by omega, vqT (show ix w (lss z j 1) < 625 by omega) (by omega), vqT (show s < 625 by omega) (by omega), nI_clamp (by omega), nI_clamp (by omega), m2, hA1.1, hA1.2.1, nI_1, nI_io1, nI_add]
      rfl
    have hend : ∀ (I86 : pm_II) (n' : Nat), On (fun c _ => c = 26 ∨ (c = 27)) X1 I86 → (∀ i, i ≠ s → I86 27 i = X1 27 i) → Fe Kn R wid n' z → ∃ Y, F_Ro_countFewest_34 u N (nI (ix w w)) (nI (s + 1)) (pm_up I86 27 s (nI n')) J = some ((), Y, J) ∧ On (fun c _ => 25 ≤ c ∧ c ≤ 27) X Y ∧ tbl Kn R wid w (ix w w + 1) Y := by
      intro I86 n' o hi hF
      have oU : On (fun c _ => c = 26 ∨ (c = 27)) X1 (pm_up I86 27 s (nI n')) := On.up o (Or.inr rfl)
      obtain ⟨Y, y1, y2, y3⟩ := ih (s + 1) N (pm_up I86 27 s (nI n')) z (by omega) (by omega) (hA1.on oU (by omega) (by omega) (fun k => by omega) (fun k => by omega) (fun k => by omega)) a3 (fun k hk => by rw [oU 25 k (by omega)]; exact a4 k hk) (by omega) (by
        intro y hy hlt
        by_cases q : ix w y = s
        · have e := ix_inj hy a3 (q.trans hzs.symm)
          refine ⟨n', Fe_16 hB a3 hF, ?_, Fe_c e hF⟩
          rw [ur, if_pos ⟨rfl, q⟩]
        · obtain ⟨n, b1, b2, b3⟩ := ht1 y hy (by omega)
          refine ⟨n, b1, ?_, b3⟩
          rw [ur, if_neg (fun z => q z.2), hi _ q]
          exact b2)
      exact ⟨Y, y1, On.trans (On.trans (a2.mono (fun c k z => by omega)) (oU.mono (fun c k z => by omega))) y2, y3⟩
    rw [hhead]
    by_cases c : n1 = 0
    · subst c
      have e : nI 0 - (1 : Int32) = -1 := by decide
      rw [e, c_neg, bd_s, if_pos rfl]
      refine hend _ 1 (On.up (On.refl _) (Or.inr rfl)) (fun i hi => by rw [ur, if_neg (fun z => hi z.2)]) (f2 (fun hc => hpos ?_))
      unfold s4
      rw [hc 0 (by omega), hc 1 (by omega), hc 2 (by omega), hc 3 (by omega)]
    · obtain ⟨n1, rfl⟩ : ∃ q, n1 = q + 1 := ⟨n1 - 1, by omega⟩
      have e : nI (n1 + 1) - (1 : Int32) = nI n1 := by rw [nl_1, pk_sub (by omega)]; rfl
      have hnz : ¬ Cn Kn R wid n1 z := fun hc => by
        have := (m4 n1).mp (Cn_mono n1 (fun k _ => Nat.sub_le _ _) hc)
        omega
      have hX : XF Kn R n1 wid w z (pm_up X1 27 s 99) := by
        refine ⟨fun k hk => ⟨(hA1.2.2 k hk).1, (hA1.2.2 k hk).2.2, a4 k hk⟩, fun y hy => ?_⟩
        by_cases q : ix w y = s
        · have e := ix_inj (hy.trans a3) a3 (q.trans hzs.symm)
          refine ⟨99, by omega, by rw [ur, if_pos ⟨rfl, q⟩]; rfl, ⟨fun hh => by omega, fun hc => absurd (Cn_c (fun k hk => (e k hk).symm) hc) hnz⟩⟩
        · have := ix_le (w := w) hy
          obtain ⟨n, b1, b2, b3⟩ := ht1 y (hy.trans a3) (by omega)
          exact ⟨n, by omega, by rw [ur, if_neg (fun z => q z.2)]; exact b2, ((b3 n1).symm)⟩
      obtain ⟨X2, res, r1, r2, r3, r4⟩ := c_top (u := u) (J := J) hu a3 h9 hs (fun k hk => by have := (hB.2.2.1 k hk).2.1; have := hB.2.1; omega) (fun k hk q => by have := (hB.2.2.1 k hk).2.2 q; have := a3 k hk; omega) (by omega) (by have := hB.1.2; omega) (by have := hB.2.1; omega) hX
      rw [hzs] at r1
      rw [e, r1, bd_s, b2i_if0]
      have o2 : On (fun c _ => c = 26 ∨ (c = 27)) X1 X2 := On.trans (On.up (On.refl _) (Or.inr rfl)) (r2.mono (fun c k z => Or.inl z))
      have hi2 : ∀ i, i ≠ s → X2 27 i = X1 27 i := fun i hi => by rw [r2 27 i (by omega), ur, if_neg (fun z => hi z.2)]
      cases res with
      | true =>
        obtain ⟨q, q1, q2, q3⟩ := r3 rfl
        exact hend X2 (n1 + 1) o2 hi2 (f1 (Sel_C.mpr ⟨q, q1⟩))
      | false =>
        exact hend X2 (n1 + 1 + 1) o2 hi2 (f2 (fun hc => by
          obtain ⟨q, q1⟩ := Sel_C.mp hc
          exact r4 rfl q q1))
theorem c_count {X : pm_II} (hu : 1000 ≤ u) (hB : RB Kn R wid w) (hA : RA Kn R wid w X) : ∃ Y, F_Ro_countFewest u X J = some ((), Y, J) ∧ On (fun c _ => 25 ≤ c ∧ c ≤ 27) X Y ∧ tbl Kn R wid w (ix w w + 1) Y := by
  have hww := ix_624 (fun k hk => (hB.2.2.1 k hk).1) hB.2.2.2 (le4.refl w)
  have step : ∀ (N k : Nat) (Z : pm_II), k < 4 → F_Ro_countFewest_7 u (N + 1) (nI (ix w w)) (nI k) Z J = F_Ro_countFewest_7 u N (nI (ix w w)) (nI (k + 1)) (pm_up Z 25 k 0) J := by
    intro N k Z hk
    rw [F_Ro_countFewest_7, show (4 : Int32) = nI 4 from rfl, if_neg (by rw [nI_leI (by omega) (by omega)]; omega), vqT hk (by omega), nI_clamp (by omega), nI_io1, nI_add]
    rfl
  have o0 : On (fun c _ => 25 ≤ c ∧ c ≤ 27) X (pm_up (pm_up (pm_up (pm_up (pm_up X 25 0 0) 25 1 0) 25 2 0) 25 3 0) 27 0 0) := by
    refine On.up (On.up (On.up (On.up (On.up (On.refl _) ?_) ?_) ?_) ?_) ?_ <;> omega
  obtain ⟨N, hN⟩ : ∃ z, u = z + 5 := ⟨u - 5, by omega⟩
  obtain ⟨Y, y1, y2, y3⟩ := cf34 (u := u) (J := J) (by omega) hB (ix w w) 1 u (pm_up (pm_up (pm_up (pm_up (pm_up X 25 0 0) 25 1 0) 25 2 0) 25 3 0) 27 0 0) (fun _ => 0) (by omega) (by omega) (hA.on o0 (by omega) (by omega) (fun k => by omega) (fun k => by omega) (fun k => by omega)) (fun k _ => Nat.zero_le _) (fun k hk => by rcases k_4 hk with rfl | rfl | rfl | rfl <;> rfl) (by unfold ix; simp) (by
    intro z hz hlt
    have h0 := ix_00 hz (by omega)
    exact ⟨0, by omega, by rw [show ix w z = 0 by omega]; rfl, Fe_0 h0⟩)
  refine ⟨Y, ?_, On.trans o0 y2, y3⟩
  unfold F_Ro_countFewest
  rw [c_whole (by omega) hB hA, bd_s, ← y1]
  have e : ∀ Z, F_Ro_countFewest_7 u u (nI (ix w w)) (0 : Int32) Z J = F_Ro_countFewest_7 u (N + 5) (nI (ix w w)) (nI 0) Z J := fun Z => by rw [← hN]; rfl
  rw [e]
  refine ((step (N + 4) 0 _ (by omega)).trans ((step (N + 3) 1 _ (by omega)).trans ((step (N + 2) 2 _ (by omega)).trans (step (N + 1) 3 _ (by omega))))).trans ?_
  rw [F_Ro_countFewest_7, if_pos (by decide)]
  rfl
end Plan
