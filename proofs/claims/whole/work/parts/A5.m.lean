/-! ===== rolls: the class's plan ===== -/
theorem ix_sub {w v q : Nat → Nat} (h : le4 q v) : ix w (sb v q) + (q 0 * sd w 0 + q 1 * sd w 1 + q 2 * sd w 2 + q 3 * sd w 3) = ix w v := by
  have hm : ∀ k, k < 4 → ∀ A, (v k - q k) * A + q k * A = v k * A := fun k hk A => by rw [← Nat.add_mul, Nat.sub_add_cancel (h k hk)]
  have e0 := hm 0 (by omega) ((w 3 + 1) * (w 2 + 1) * (w 1 + 1))
  have e1 := hm 1 (by omega) ((w 3 + 1) * (w 2 + 1))
  have e2 := hm 2 (by omega) (w 3 + 1)
  have e3 := h 3 (by omega)
  unfold ix sb
  show (v 0 - q 0) * ((w 3 + 1) * (w 2 + 1) * (w 1 + 1)) + (v 1 - q 1) * ((w 3 + 1) * (w 2 + 1)) + (v 2 - q 2) * (w 3 + 1) + (v 3 - q 3) + (q 0 * ((w 3 + 1) * (w 2 + 1) * (w 1 + 1)) + q 1 * ((w 3 + 1) * (w 2 + 1)) + q 2 * (w 3 + 1) + q 3 * 1) = _
  omega
section MPlan
variable {u : Nat} {J : pm_JJ} {Kn R : Nat} {wid w : Nat → Nat}
theorem Fe_next {n : Nat} {v q : Nat → Nat} (h : Fe Kn R wid (n + 1) v) (hq : Sel Kn R wid n v q) : Fe Kn R wid n (sb v q) := fun m => ⟨fun hc => by
  have := (h (m + 1)).mp ⟨q, hq.1, hq.2.1, hc⟩
  omega, fun hm => Cn_le hm hq.2.2⟩
def kP (c k : Nat) : Prop := c = 25 ∨ c = 26 ∨ c = 28 ∨ (c = 19 ∧ k = 12)
theorem mp80 {K : Int32 → pm_II → pm_JJ → Option (Unit × pm_II × pm_JJ)} {P : Nat} {v q : Nat → Nat} {X : pm_II} (hu : 10 ≤ u) (hB : RB Kn R wid w) (hA : RA Kn R wid w X) (hv : le4 v w) (hq : le4 q v) (hP : P < 16) (h12 : X 19 12 = nI P) (h25 : ∀ k, k < 4 → X 25 k = nI (v k)) (h26 : ∀ k, k < 4 → X 26 k = nI (q k)) : ∃ Y, F_Ro_makePlan_80 u K u (nI (ix w v)) (0 : Int32) X J = K (nI (ix w (sb v q))) Y J ∧ On kP X Y ∧ Y 19 12 = nI (P + 1) ∧ (∀ k, k < 4 → Y 25 k = nI (sb v q k)) ∧ (∀ k, k < 4 → Y 28 (4 * P + k) = nI (q k)) ∧ ∀ i, i < 4 * P → Y 28 i = X 28 i := by
  have hsub := ix_sub (w := w) hq
  have h624 := ix_624 (fun k hk => (hB.2.2.1 k hk).1) hB.2.2.2 hv
  have step : ∀ (N s k : Nat) (Z : pm_II), k < 4 → Z 19 12 = nI P → Z 24 k = nI (sd w k) → Z 25 k = nI (v k) → Z 26 k = nI (q k) → q k * sd w k ≤ s → F_Ro_makePlan_80 u K (N + 1) (nI s) (nI k) Z J = F_Ro_makePlan_80 u K N (nI (s - q k * sd w k)) (nI (k + 1)) (pm_up (pm_up Z 28 (4 * P + k) (nI (q k))) 25 k (nI (v k - q k))) J := by
    intro N s k Z hk z1 z2 z3 z4 z5
    have hqk := hq k hk
    have hvk := hv k hk
    have hwk := (hB.2.2.1 k hk).1
    rw [F_Ro_makePlan_80, show (4 : Int32) = nI 4 from rfl, if_neg (by rw [nI_leI (by omega) (by omega)]; omega), z1, pk_mul, nI_add, vqT hk (by omega), vqT (show P * 4 + k < 64 by omega) (by omega), nI_clamp (by omega), nI_clamp (by omega), z4, z2, z3, pk_mul, pk_sub z5, pk_sub hqk, nI_io1, nI_add, show P * 4 + k = 4 * P + k by omega]
    rfl
  obtain ⟨N, rfl⟩ : ∃ z, u = z + 5 := ⟨u - 5, by omega⟩
  have w24 : ∀ k, k < 4 → X 24 k = nI (sd w k) := fun k hk => (hA.2.2 k hk).2.2
  have s0 := step (N + 4) (ix w v) 0 X (by omega) h12 (w24 0 (by omega)) (h25 0 (by omega)) (h26 0 (by omega)) (by omega)
  generalize hX0 : pm_up (pm_up X 28 (4 * P + 0) (nI (q 0))) 25 0 (nI (v 0 - q 0)) = X0 at s0
  have s1 := step (N + 3) (ix w v - q 0 * sd w 0) 1 X0 (by omega) (by rw [← hX0]; exact h12) (by rw [← hX0]; exact w24 1 (by omega)) (by rw [← hX0]; exact h25 1 (by omega)) (by rw [← hX0]; exact h26 1 (by omega)) (by omega)
  generalize hX1 : pm_up (pm_up X0 28 (4 * P + 1) (nI (q 1))) 25 1 (nI (v 1 - q 1)) = X1 at s1
  have s2 := step (N + 2) (ix w v - q 0 * sd w 0 - q 1 * sd w 1) 2 X1 (by omega) (by rw [← hX1, ← hX0]; exact h12) (by rw [← hX1, ← hX0]; exact w24 2 (by omega)) (by rw [← hX1, ← hX0]; exact h25 2 (by omega)) (by rw [← hX1, ← hX0]; exact h26 2 (by omega)) (by omega)
  generalize hX2 : pm_up (pm_up X1 28 (4 * P + 2) (nI (q 2))) 25 2 (nI (v 2 - q 2)) = X2 at s2
  have s3 := step (N + 1) (ix w v - q 0 * sd w 0 - q 1 * sd w 1 - q 2 * sd w 2) 3 X2 (by omega) (by rw [← hX2, ← hX1, ← hX0]; exact h12) (by rw [← hX2, ← hX1, ← hX0]; exact w24 3 (by omega)) (by rw [← hX2, ← hX1, ← hX0]; exact h25 3 (by omega)) (by rw [← hX2, ← hX1, ← hX0]; exact h26 3 (by omega)) (by omega)
  generalize hX3 : pm_up (pm_up X2 28 (4 * P + 3) (nI (q 3))) 25 3 (nI (v 3 - q 3)) = X3 at s3
  have h12' : X3 19 12 = nI P := by rw [← hX3, ← hX2, ← hX1, ← hX0]; exact h12
  refine ⟨pm_up X3 19 12 (nI (P + 1)), ?_, ?_, rfl, fun k hk => ?_, fun k hk => ?_, fun i hi => ?_⟩
  · refine (s0.trans (s1.trans (s2.trans s3))).trans ?_
    rw [F_Ro_makePlan_80, if_pos (by decide), h12', nI_1, show ix w v - q 0 * sd w 0 - q 1 * sd w 1 - q 2 * sd w 2 - q 3 * sd w 3 = ix w (sb v q) by omega]
  · rw [← hX3, ← hX2, ← hX1, ← hX0]
    refine On.up (On.up (On.up (On.up (On.up (On.up (On.up (On.up (On.up (On.refl _) ?_) ?_) ?_) ?_) ?_) ?_) ?_) ?_) ?_ <;> (unfold kP; omega)
  · rw [← hX3, ← hX2, ← hX1, ← hX0]
    rcases k_4 hk with rfl | rfl | rfl | rfl <;> rfl
  · rw [← hX3, ← hX2, ← hX1, ← hX0]
    simp only [ur]
    rcases k_4 hk with rfl | rfl | rfl | rfl <;> simp
  · rw [← hX3, ← hX2, ← hX1, ← hX0]
    simp only [ur]
    have a0 : ¬ i = 4 * P + 0 := by omega
    have a1 : ¬ i = 4 * P + 1 := by omega
    have a2 : ¬ i = 4 * P + 2 := by omega
    have a3 : ¬ i = 4 * P + 3 := by omega
    simp [a0, a1, a2, a3]
    intro z
    omega
theorem mp35 (hu : 30 ≤ u) (hB : RB Kn R wid w) : ∀ (n P N : Nat) (v : Nat → Nat) (X : pm_II), n < N → P + n ≤ 16 → le4 v w → Fe Kn R wid n v → RA Kn R wid w X → (∀ k, k < 4 → X 25 k = nI (v k)) → X 19 12 = nI P → tbl Kn R wid w (ix w w + 1) X → ∃ Y pl, F_Ro_makePlan_35 u N (nI (ix w v)) X J = some ((), Y, J) ∧ On kP X Y ∧ Y 19 12 = nI (P + n) ∧ Pl Kn R wid pl n v P ∧ (∀ i, P ≤ i → i < P + n → ∀ k, k < 4 → Y 28 (4 * i + k) = nI (pl i k)) ∧ ∀ i, i < 4 * P → Y 28 i = X 28 i := by
  intro n
  have h9 : ∀ k, k < 4 → w k ≤ 9 := fun k hk => (hB.2.2.1 k hk).1
  have hs := hB.2.2.2
  induction n with
  | zero =>
    intro P N v X hN hP hv hF hA h25 h12 ht
    obtain ⟨N, rfl⟩ : ∃ z, N = z + 1 := ⟨N - 1, by omega⟩
    have h0 : Cn Kn R wid 0 v := (hF 0).mpr (Nat.le_refl _)
    have hs0 : s4 v = 0 := by
      unfold s4
      rw [h0 0 (by omega), h0 1 (by omega), h0 2 (by omega), h0 3 (by omega)]
    refine ⟨X, fun _ _ => 0, ?_, On.refl _, h12, trivial, fun i h1 h2 => by omega, fun i _ => rfl⟩
    rw [F_Ro_makePlan_35, ix_0 hs0, if_pos (by decide)]
    rfl
  | succ n ih =>
    intro P N v X hN hP hv hF hA h25 h12 ht
    obtain ⟨N, rfl⟩ : ∃ z, N = z + 1 := ⟨N - 1, by omega⟩
    have h624 := ix_624 h9 hs hv
    have hpos : ¬ ix w v = 0 := fun z => by
      have := (hF 0).mp (show Cn Kn R wid 0 v from s4_0 (ix_00 hv z))
      omega
    have hle : ∀ y, le4 y w → ix w y < ix w w + 1 := fun y hy => by have := ix_le (w := w) hy; omega
    obtain ⟨n', m1, m2, m3⟩ := ht v hv (hle v hv)
    have en := Fe_u m3 hF
    subst en
    have hX : XF Kn R n wid w v X := ⟨fun k hk => ⟨(hA.2.2 k hk).1, (hA.2.2 k hk).2.2, h25 k hk⟩, fun y hy => by
      obtain ⟨x, x1, x2, x3⟩ := ht y (hy.trans hv) (hle y (hy.trans hv))
      exact ⟨x, by omega, x2, (x3 n).symm⟩⟩
    obtain ⟨X2, res, r1, r2, r3, r4⟩ := c_top (u := u) (J := J) hu hv h9 hs (fun k hk => by have := (hB.2.2.1 k hk).2.1; have := hB.2.1; omega) (fun k hk q => by have := (hB.2.2.1 k hk).2.2 q; have := hv k hk; omega) (by omega) (by have := hB.1.2; omega) (by have := hB.2.1; omega) hX
    have hres : res = true := by
      cases res with
      | true => rfl
      | false =>
        obtain ⟨q, q1⟩ := Sel_C.mp ((hF (n + 1)).mpr (Nat.le_refl _))
        exact absurd q1 (r4 rfl q)
    subst hres
    obtain ⟨q, q1, q2, q3⟩ := r3 rfl
    have hA2 : RA Kn R wid w X2 := hA.on r2 (by omega) (by omega) (fun k => by omega) (fun k => by omega) (fun k => by omega)
    obtain ⟨Z, z1, z2, z3, z4, z5, z6⟩ := mp80 (u := u) (J := J) (K := F_Ro_makePlan_35 u N) (by omega) hB hA2 hv q1.1 (show P < 16 by omega) (by rw [r2 19 12 (by omega)]; exact h12) (fun k hk => by rw [r2 25 k (by omega)]; exact h25 k hk) q2
    have hAZ : RA Kn R wid w Z := hA2.on z2 (by unfold kP; omega) (by unfold kP; omega) (fun k => by unfold kP; omega) (fun k => by unfold kP; omega) (fun k => by unfold kP; omega)
    have hvq : le4 (sb v q) w := fun k hk => Nat.le_trans (Nat.sub_le _ _) (hv k hk)
    obtain ⟨Y, pl, y1, y2, y3, y4, y5, y6⟩ := ih (P + 1) N (sb v q) Z (by omega) (by omega) hvq (Fe_next hF q1) hAZ z4 z3 (fun y hy hlt => by rw [z2 27 _ (by unfold kP; omega), r2 27 _ (by omega)]; exact ht y hy hlt)
    refine ⟨Y, fun i => if i = P then q else pl i, ?_, On.trans (On.trans (r2.mono (fun c k z => Or.inr (Or.inl z))) z2) y2, ?_, ⟨?_, ?_, ?_⟩, fun i h1 h2 k hk => ?_, fun i hi => ?_⟩
    · have e : nI (n + 1) - (1 : Int32) = nI n := by rw [nl_1, pk_sub (by omega)]; rfl
      rw [F_Ro_makePlan_35, if_neg (by rw [← nI_0, nI_leI (by omega) (by omega)]; omega), show (625 : Int32) = nI 625 from rfl, if_neg (by rw [nI_leI (by omega) (by omega)]; omega), h12, show (16 : Int32) = nI 16 from rfl, if_neg (by rw [nI_leI (by omega) (by omega)]; omega), vqT (show ix w v < 625 by omega) (by omega), nI_clamp (by omega), m2, e, hA.1, hA.2.1, r1, cond_true, bd_s, z1]
      exact y1
    · rw [y3, show P + 1 + n = P + (n + 1) by omega]
    · dsimp only
      rw [if_pos rfl]; exact q1
    · dsimp only
      rw [if_pos rfl]; exact q3
    · dsimp only
      rw [if_pos rfl]
      exact Pl_c n _ _ (fun j hj => by rw [if_neg (by omega)]) y4
    · dsimp only
      by_cases c : i = P
      · rw [if_pos c, c, y6 _ (by omega)]
        exact z5 k hk
      · rw [if_neg c]
        exact y5 i (by omega) (by omega) k hk
    · rw [y6 i (by omega), z6 i hi, r2 28 i (by omega)]
theorem c_makePlan {X : pm_II} (hu : 100 ≤ u) (hB : RB Kn R wid w) (hA : RA Kn R wid w X) (ht : tbl Kn R wid w (ix w w + 1) X) : ∃ Y n pl, F_Ro_makePlan u X J = some ((), Y, J) ∧ On kP X Y ∧ n ≤ 16 ∧ Fe Kn R wid n w ∧ Y 19 12 = nI n ∧ Pl Kn R wid pl n w 0 ∧ ∀ i, i < n → ∀ k, k < 4 → Y 28 (4 * i + k) = nI (pl i k) := by
  have step : ∀ (N k : Nat) (Z : pm_II), k < 4 → Z 21 k = nI (w k) → F_Ro_makePlan_7 u (N + 1) (nI (ix w w)) (nI k) Z J = F_Ro_makePlan_7 u N (nI (ix w w)) (nI (k + 1)) (pm_up Z 25 k (nI (w k))) J := by
    intro N k Z hk hz
    rw [F_Ro_makePlan_7, show (4 : Int32) = nI 4 from rfl, if_neg (by rw [nI_leI (by omega) (by omega)]; omega), vqT hk (by omega), nI_clamp (by omega), hz, nI_io1, nI_add]
    rfl
  have w21 : ∀ k, k < 4 → X 21 k = nI (w k) := fun k hk => (hA.2.2 k hk).2.1
  have o0 : On kP X (pm_up (pm_up (pm_up (pm_up (pm_up X 25 0 (nI (w 0))) 25 1 (nI (w 1))) 25 2 (nI (w 2))) 25 3 (nI (w 3))) 19 12 0) := by
    refine On.up (On.up (On.up (On.up (On.up (On.refl _) ?_) ?_) ?_) ?_) ?_ <;> (unfold kP; omega)
  obtain ⟨n, n1, n2⟩ := Fe_ex hB.1.1 (fun k hk => (hB.2.2.1 k hk).2.1) w
  have hs := hB.2.2.2
  obtain ⟨N, hN⟩ : ∃ z, u = z + 5 := ⟨u - 5, by omega⟩
  obtain ⟨Y, pl, y1, y2, y3, y4, y5, y6⟩ := mp35 (u := u) (J := J) (by omega) hB n 0 u w (pm_up (pm_up (pm_up (pm_up (pm_up X 25 0 (nI (w 0))) 25 1 (nI (w 1))) 25 2 (nI (w 2))) 25 3 (nI (w 3))) 19 12 0) (by omega) (by omega) (le4.refl w) n2 (hA.on o0 (by unfold kP; omega) (by unfold kP; omega) (fun k => by unfold kP; omega) (fun k => by unfold kP; omega) (fun k => by unfold kP; omega)) (fun k hk => by rcases k_4 hk with rfl | rfl | rfl | rfl <;> rfl) rfl (fun y hy hlt => by rw [o0 27 _ (by unfold kP; omega)]; exact ht y hy hlt)
  refine ⟨Y, n, pl, ?_, On.trans o0 y2, by omega, n2, ?_, y4, fun i hi k hk => y5 i (Nat.zero_le _) (by omega) k hk⟩
  · unfold F_Ro_makePlan
    rw [c_whole (by omega) hB hA, bd_s, ← y1]
    have e : ∀ Z, F_Ro_makePlan_7 u u (nI (ix w w)) (0 : Int32) Z J = F_Ro_makePlan_7 u (N + 5) (nI (ix w w)) (nI 0) Z J := fun Z => by rw [← hN]; rfl
    rw [e]
    have t0 := step (N + 4) 0 X (by omega) (w21 0 (by omega))
    have t1 := step (N + 3) 1 (pm_up X 25 0 (nI (w 0))) (by omega) (w21 1 (by omega))
    have t2 := step (N + 2) 2 (pm_up (pm_up X 25 0 (nI (w 0))) 25 1 (nI (w 1))) (by omega) (w21 2 (by omega))
    have t3 := step (N + 1) 3 (pm_up (pm_up (pm_up X 25 0 (nI (w 0))) 25 1 (nI (w 1))) 25 2 (nI (w 2))) (by omega) (w21 3 (by omega))
    refine (t0.trans (t1.trans (t2.trans t3))).trans ?_
    rw [F_Ro_makePlan_7, if_pos (by decide)]
  · rw [y3, Nat.zero_add]
end MPlan
