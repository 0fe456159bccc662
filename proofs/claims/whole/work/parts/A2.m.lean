/-! ===== rolls: the class's search, whole ===== -/
def cod (q : Nat → Nat) : Nat := 1000 * q 0 + 100 * q 1 + 10 * q 2 + q 3
section Top
variable {u : Nat} {J : pm_JJ} {Kn R goal : Nat} {wid w v : Nat → Nat}
theorem c_reach (hu : 30 ≤ u) (hv : le4 v w) (h9 : ∀ k, k < 4 → w k ≤ 9) (hs : s4 w ≤ 16) (hwid : ∀ k, k < 4 → wid k ≤ 1000) (h0 : ∀ k, k < 4 → wid k = 0 → v k = 0) (hg : goal < 100) : ∀ (m j f r : Nat) (y : Nat → Nat) (X : pm_II) (N : Nat), j + (m + 1) = 4 → m < N → f ≤ 1000 → r ≤ 1000 → le4 y v → (∀ k, j ≤ k → k < 4 → y k = v k) → XF Kn R goal wid w v X → ∃ X2 res, F_Ro_reaches_r u N (nI j) (nI f) (nI r) (nI (ix w y)) (nI goal) X J = some (b2i res, X2, J) ∧ On (fun c k => c = 26 ∧ j ≤ k) X X2 ∧ RS Kn R goal wid (m + 1) j f r y res X2 := by
  intro m
  have hg0 : (0 : Int32) ≤ nI goal := Int32.not_lt.mp (nI_pos (by omega))
  induction m with
  | zero =>
    intro j f r y X N hj hN hf hr hy hyk hX
    obtain ⟨N, rfl⟩ : ∃ z, N = z + 1 := ⟨N - 1, by omega⟩
    obtain rfl : j = 3 := by omega
    have hix : ix w y ≤ 624 := ix_624 h9 hs (hy.trans hv)
    have hv3 : v 3 ≤ 9 := Nat.le_trans (hv 3 (by omega)) (h9 3 (by omega))
    have hy3 : y 3 = v 3 := hyk 3 (by omega) (by omega)
    obtain ⟨b1, b2, b3⟩ := hX.1 3 (by omega)
    obtain ⟨a1, a2, a3⟩ := (mo_iff (f := f) (r := r) (h0 3 (by omega))).mp (Nat.le_refl (mo wid v 3 f r))
    have hlx := ix_lss (w := w) (y := y) (n := mo wid v 3 f r) (show 3 < 4 by omega) (by rw [hy3]; exact a1)
    obtain ⟨x, x1, x2, x3⟩ := hX.2 (lss y 3 (mo wid v 3 f r)) (lss_le hy)
    have hres : F_Ro_reaches_r u (N + 1) (nI 3) (nI f) (nI r) (nI (ix w y)) (nI goal) X J = some (b2i (decide (x ≤ goal)), pm_up X 26 3 (nI (mo wid v 3 f r)), J) := by
      rw [F_Ro_reaches_r, if_neg (by decide), if_neg (by decide), if_pos hg0, c_most hX (by omega) (by omega) hf hr (hwid 3 (by omega)), bd_s, if_neg (by decide), vqT (show 3 < 4 by omega) (by omega), nI_clamp (by omega), b2, pk_mul, pk_sub (by omega), show ix w y - mo wid v 3 f r * sd w 3 = ix w (lss y 3 (mo wid v 3 f r)) by omega, cond_true, cond_true, if_neg (nI_pos (by omega)), if_neg (by rw [show (625 : Int32) = nI 625 from rfl, nI_leI (by omega) (by omega)]; omega), vqT (show ix w (lss y 3 (mo wid v 3 f r)) < 625 by omega) (by omega), nI_clamp (by omega), x2, cond_true]
      by_cases c : x ≤ goal
      · rw [if_neg (by rw [nI_ltI (by omega) (by omega)]; omega), decide_eq_true c]
        rfl
      · rw [if_pos (by rw [nI_ltI (by omega) (by omega)]; omega), decide_eq_false c]
        rfl
    refine ⟨_, _, hres, On.up (On.refl _) ⟨rfl, Nat.le_refl _⟩, fun hr => ⟨fun _ => mo wid v 3 f r, ?_, fun k hk hk4 => ?_, fun q2 hq2 => ?_⟩, fun hr q2 hq2 => ?_⟩
    · have := of_decide_eq_true hr
      exact ⟨by rw [hy3]; exact a1, a2, a3, x3.mp this⟩
    · obtain rfl : k = 3 := by omega
      rw [ur, if_pos ⟨rfl, rfl⟩]
    · unfold Suf at hq2
      have := (mo_iff (n := q2 3) (f := f) (r := r) (h0 3 (by omega))).mpr ⟨by rw [← hy3]; exact hq2.1, hq2.2.1, hq2.2.2.1⟩
      unfold lexq
      by_cases c : q2 3 < mo wid v 3 f r
      · exact Or.inl c
      · exact Or.inr ⟨by omega, trivial⟩
    · have hn := of_decide_eq_false hr
      unfold Suf at hq2
      have := (mo_iff (n := q2 3) (f := f) (r := r) (h0 3 (by omega))).mpr ⟨by rw [← hy3]; exact hq2.1, hq2.2.1, hq2.2.2.1⟩
      refine hn (x3.mpr (Cn_mono goal ?_ hq2.2.2.2))
      intro k hk
      unfold lss
      split <;> omega
  | succ m ih =>
    intro j f r y X N hj hN hf hr hy hyk hX
    obtain ⟨N, rfl⟩ : ∃ z, N = z + 1 := ⟨N - 1, by omega⟩
    have hvj : v j ≤ 9 := Nat.le_trans (hv j (by omega)) (h9 j (by omega))
    have hyj : y j = v j := hyk j (Nat.le_refl _) (by omega)
    have hmo := (mo_iff (f := f) (r := r) (h0 j (by omega))).mp (Nat.le_refl (mo wid v j f r))
    obtain ⟨X2, res, r1, r2, r3⟩ := c_87 (u := u) (J := J) (N2 := N) (show j < 4 by omega) hv h9 hs hwid h0 hf hr hg hy hyj hyk (fun f r y X hf hr hy hyk hX => ih (j + 1) f r y X N (by omega) (by omega) hf hr hy hyk hX) (mo wid v j f r) u X (by omega) (Nat.le_refl _) hX (fun q2 hq2 => by
      unfold Suf at hq2
      exact (mo_iff (h0 j (by omega))).mpr ⟨by rw [← hyj]; exact hq2.1, hq2.2.1, hq2.2.2.1⟩)
    refine ⟨X2, res, ?_, r2, r3⟩
    rw [F_Ro_reaches_r, if_neg (nI_pos (by omega)), show (4 : Int32) = nI 4 from rfl, if_neg (by rw [nI_leI (by omega) (by omega)]; omega), if_pos hg0, c_most hX (by omega) (by omega) hf hr (hwid j (by omega)), bd_s, if_pos (by rw [show (3 : Int32) = nI 3 from rfl, nI_eq (by omega) (by omega)]; omega)]
    exact r1
theorem Suf_Sel {q : Nat → Nat} : Suf wid (Cn Kn R wid goal) q 4 0 Kn R v ↔ Sel Kn R wid goal v q := by
  have hc : ∀ k, k < 4 → (lss (lss (lss (lss v 0 (q 0)) 1 (q 1)) 2 (q 2)) 3 (q 3)) k = sb v q k := by
    intro k hk
    have : k = 0 ∨ k = 1 ∨ k = 2 ∨ k = 3 := by omega
    rcases this with rfl | rfl | rfl | rfl <;> simp [lss, sb]
  have e1 : (lss v 0 (q 0)) 1 = v 1 := by simp [lss]
  have e2 : (lss (lss v 0 (q 0)) 1 (q 1)) 2 = v 2 := by simp [lss]
  have e3 : (lss (lss (lss v 0 (q 0)) 1 (q 1)) 2 (q 2)) 3 = v 3 := by simp [lss]
  constructor
  · intro h
    unfold Suf at h
    obtain ⟨a1, a2, a3, h⟩ := h
    unfold Suf at h
    obtain ⟨b1, b2, b3, h⟩ := h
    unfold Suf at h
    obtain ⟨c1, c2, c3, h⟩ := h
    unfold Suf at h
    obtain ⟨d1, d2, d3, h⟩ := h
    unfold Suf at h
    simp only [Nat.zero_add, Nat.reduceAdd] at a1 a2 a3 b1 b2 b3 c1 c2 c3 d1 d2 d3 h
    refine ⟨fun k hk => ?_, ⟨?_, ?_⟩, Cn_c (fun k hk => (hc k hk).symm) h⟩
    · have : k = 0 ∨ k = 1 ∨ k = 2 ∨ k = 3 := by omega
      rcases this with rfl | rfl | rfl | rfl
      · exact a1
      · rw [← e1]; exact b1
      · rw [← e2]; exact c1
      · rw [← e3]; exact d1
    · unfold s4; omega
    · unfold w4; omega
  · intro ⟨h1, ⟨h2, h3⟩, h4⟩
    unfold s4 at h2
    unfold w4 at h3
    refine ⟨h1 0 (by omega), by omega, by omega, ?_, (by show q 1 ≤ Kn - q 0; omega), (by show q 1 * wid 1 ≤ R - q 0 * wid 0; omega), ?_, (by show q 2 ≤ Kn - q 0 - q 1; omega), (by show q 2 * wid 2 ≤ R - q 0 * wid 0 - q 1 * wid 1; omega), ?_, (by show q 3 ≤ Kn - q 0 - q 1 - q 2; omega), (by show q 3 * wid 3 ≤ R - q 0 * wid 0 - q 1 * wid 1 - q 2 * wid 2; omega), Cn_c hc h4⟩
    · show q 1 ≤ (lss v 0 (q 0)) 1
      rw [e1]; exact h1 1 (by omega)
    · show q 2 ≤ (lss (lss v 0 (q 0)) 1 (q 1)) 2
      rw [e2]; exact h1 2 (by omega)
    · show q 3 ≤ (lss (lss (lss v 0 (q 0)) 1 (q 1)) 2 (q 2)) 3
      rw [e3]; exact h1 3 (by omega)
theorem lex_cod {q2 q : Nat → Nat} (h9 : ∀ k, k < 4 → q2 k ≤ 9) (h : lexq q2 q 4 0) : cod q2 ≤ cod q := by
  have a1 := h9 1 (by omega)
  have a2 := h9 2 (by omega)
  have a3 := h9 3 (by omega)
  unfold cod
  simp only [lexq, Nat.zero_add, Nat.reduceAdd] at h
  omega
theorem c_top {X : pm_II} (hu : 30 ≤ u) (hv : le4 v w) (h9 : ∀ k, k < 4 → w k ≤ 9) (hs : s4 w ≤ 16) (hwid : ∀ k, k < 4 → wid k ≤ 1000) (h0 : ∀ k, k < 4 → wid k = 0 → v k = 0) (hg : goal < 100) (hK : Kn ≤ 1000) (hR : R ≤ 1000) (hX : XF Kn R goal wid w v X) : ∃ X2 res, F_Ro_reaches u (0 : Int32) (nI Kn) (nI R) (nI (ix w v)) (nI goal) X J = some (b2i res, X2, J) ∧ On (fun c _ => c = 26) X X2 ∧ (res = true → ∃ q, Sel Kn R wid goal v q ∧ (∀ k, k < 4 → X2 26 k = nI (q k)) ∧ ∀ q2, Sel Kn R wid goal v q2 → cod q2 ≤ cod q) ∧ (res = false → ∀ q2, ¬ Sel Kn R wid goal v q2) := by
  obtain ⟨X2, res, r1, r2, r3, r4⟩ := c_reach (u := u) (J := J) hu hv h9 hs hwid h0 hg 3 0 Kn R v X 10 (by omega) (by omega) hK hR (le4.refl v) (fun _ _ _ => rfl) hX
  refine ⟨X2, res, r1, r2.mono (fun c k z => z.1), fun h => ?_, fun h q2 hq2 => r4 h q2 (Suf_Sel.mpr hq2)⟩
  obtain ⟨q, q1, q2, q3⟩ := r3 h
  refine ⟨q, Suf_Sel.mp q1, fun k hk => q2 k (Nat.zero_le _) hk, fun q4 hq4 => lex_cod (fun k hk => ?_) (q3 q4 (Suf_Sel.mpr hq4))⟩
  exact Nat.le_trans (hq4.1 k hk) (Nat.le_trans (hv k hk) (h9 k hk))
theorem c_neg {X : pm_II} {a b c : Int32} : F_Ro_reaches u (0 : Int32) a b c (-1) X J = some (0, X, J) := by
  unfold F_Ro_reaches
  rw [F_Ro_reaches_r, if_neg (by decide), if_neg (by decide), if_neg (by decide)]
end Top
