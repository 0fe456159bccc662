/-! ===== rolls: what can be cut ===== -/
def le4 (p v : Nat → Nat) : Prop := ∀ k, k < 4 → p k ≤ v k
def s4 (p : Nat → Nat) : Nat := p 0 + p 1 + p 2 + p 3
def w4 (wid p : Nat → Nat) : Nat := p 0 * wid 0 + p 1 * wid 1 + p 2 * wid 2 + p 3 * wid 3
def okp (Kn R : Nat) (wid p : Nat → Nat) : Prop := s4 p ≤ Kn ∧ w4 wid p ≤ R
def sb (v p : Nat → Nat) : Nat → Nat := fun k => v k - p k
def Cn (Kn R : Nat) (wid : Nat → Nat) : Nat → (Nat → Nat) → Prop
  | 0, v => ∀ k, k < 4 → v k = 0
  | n + 1, v => ∃ p, le4 p v ∧ okp Kn R wid p ∧ Cn Kn R wid n (sb v p)
theorem le4_s {p v : Nat → Nat} (h : le4 p v) : s4 p ≤ s4 v := by
  have h0 := h 0 (by omega)
  have h1 := h 1 (by omega)
  have h2 := h 2 (by omega)
  have h3 := h 3 (by omega)
  unfold s4
  omega
theorem le4_w {wid p v : Nat → Nat} (h : le4 p v) : w4 wid p ≤ w4 wid v := by
  have h0 := Nat.mul_le_mul_right (wid 0) (h 0 (by omega))
  have h1 := Nat.mul_le_mul_right (wid 1) (h 1 (by omega))
  have h2 := Nat.mul_le_mul_right (wid 2) (h 2 (by omega))
  have h3 := Nat.mul_le_mul_right (wid 3) (h 3 (by omega))
  unfold w4
  omega
theorem le4.trans {a b c : Nat → Nat} (h : le4 a b) (h2 : le4 b c) : le4 a c := fun k hk => Nat.le_trans (h k hk) (h2 k hk)
theorem le4.refl (a : Nat → Nat) : le4 a a := fun _ _ => Nat.le_refl _
theorem okp_le {Kn R : Nat} {wid p v : Nat → Nat} (h : okp Kn R wid v) (hl : le4 p v) : okp Kn R wid p := ⟨Nat.le_trans (le4_s hl) h.1, Nat.le_trans (le4_w hl) h.2⟩
section CnT
variable {Kn R : Nat} {wid : Nat → Nat}
theorem okp_0 : okp Kn R wid (fun _ => 0) := by
  unfold okp s4 w4
  simp
theorem Cn_mono {v v2 : Nat → Nat} : ∀ n, le4 v2 v → Cn Kn R wid n v → Cn Kn R wid n v2 := by
  intro n
  induction n generalizing v v2 with
  | zero => intro h hC k hk; have := h k hk; rw [hC k hk] at this; omega
  | succ n ih =>
    intro h ⟨p, p1, p2, p3⟩
    refine ⟨fun k => min (p k) (v2 k), fun k _ => Nat.min_le_right _ _, okp_le p2 (fun k _ => Nat.min_le_left _ _), ih (fun k hk => ?_) p3⟩
    have := h k hk
    have := p1 k hk
    show v2 k - min (p k) (v2 k) ≤ v k - p k
    omega
theorem Cn_c {v v2 : Nat → Nat} {n : Nat} (h : ∀ k, k < 4 → v2 k = v k) (hC : Cn Kn R wid n v) : Cn Kn R wid n v2 := Cn_mono n (fun k hk => by rw [h k hk]; exact Nat.le_refl _) hC
theorem Cn_s {v : Nat → Nat} {n : Nat} (h : Cn Kn R wid n v) : Cn Kn R wid (n + 1) v := ⟨fun _ => 0, fun _ _ => Nat.zero_le _, okp_0, h⟩
theorem Cn_le {v : Nat → Nat} {n m : Nat} (hnm : n ≤ m) (h : Cn Kn R wid n v) : Cn Kn R wid m v := by
  obtain ⟨d, rfl⟩ : ∃ d, m = n + d := ⟨m - n, by omega⟩
  induction d with
  | zero => exact h
  | succ d ih => exact Cn_s (ih (by omega))
/-- one piece -/
def e1 (j : Nat) : Nat → Nat := fun k => if k = j then 1 else 0
theorem okp_e1 {j : Nat} (hj : j < 4) (hK : 1 ≤ Kn) (hw : wid j ≤ R) : okp Kn R wid (e1 j) := by
  unfold okp s4 w4 e1
  have : j = 0 ∨ j = 1 ∨ j = 2 ∨ j = 3 := by omega
  rcases this with rfl | rfl | rfl | rfl <;> simp <;> omega
theorem Cn_e1 {v : Nat → Nat} {n j : Nat} (hj : j < 4) (hK : 1 ≤ Kn) (hw : wid j ≤ R) (hv : 1 ≤ v j) (h : Cn Kn R wid n (sb v (e1 j))) : Cn Kn R wid (n + 1) v := ⟨e1 j, fun k hk => by
    unfold e1
    by_cases q : k = j
    · rw [if_pos q, q]; exact hv
    · rw [if_neg q]; exact Nat.zero_le _, okp_e1 hj hK hw, h⟩
theorem s4_0 {v : Nat → Nat} (h : s4 v = 0) : ∀ k, k < 4 → v k = 0 := by
  unfold s4 at h
  intro k hk
  have : k = 0 ∨ k = 1 ∨ k = 2 ∨ k = 3 := by omega
  rcases this with rfl | rfl | rfl | rfl <;> omega
theorem s4_pos {v : Nat → Nat} (h : ¬ s4 v = 0) : ∃ j, j < 4 ∧ 1 ≤ v j := by
  unfold s4 at h
  by_cases c0 : 1 ≤ v 0
  · exact ⟨0, by omega, c0⟩
  · by_cases c1 : 1 ≤ v 1
    · exact ⟨1, by omega, c1⟩
    · by_cases c2 : 1 ≤ v 2
      · exact ⟨2, by omega, c2⟩
      · exact ⟨3, by omega, by omega⟩
theorem s4_e1 {v : Nat → Nat} {j : Nat} (hj : j < 4) (hv : 1 ≤ v j) : s4 (sb v (e1 j)) + 1 = s4 v := by
  unfold s4 sb e1
  have : j = 0 ∨ j = 1 ∨ j = 2 ∨ j = 3 := by omega
  rcases this with rfl | rfl | rfl | rfl <;> simp <;> omega
theorem Cn_all (hK : 1 ≤ Kn) (hw : ∀ k, k < 4 → wid k ≤ R) : ∀ (n : Nat) (v : Nat → Nat), s4 v = n → Cn Kn R wid n v := by
  intro n
  induction n with
  | zero => intro v h; exact s4_0 h
  | succ n ih =>
    intro v h
    obtain ⟨j, hj, hv⟩ := s4_pos (v := v) (by omega)
    exact Cn_e1 hj hK (hw j hj) hv (ih _ (by have := s4_e1 hj hv; omega))
/-- the fewest patterns -/
def Fe (Kn R : Nat) (wid : Nat → Nat) (n : Nat) (v : Nat → Nat) : Prop := ∀ m, Cn Kn R wid m v ↔ n ≤ m
theorem Fe_ex (hK : 1 ≤ Kn) (hw : ∀ k, k < 4 → wid k ≤ R) (v : Nat → Nat) : ∃ n, n ≤ s4 v ∧ Fe Kn R wid n v := by
  have h : ∀ d m, m + d = s4 v → (∀ i, i < m → ¬ Cn Kn R wid i v) → ∃ n, n ≤ s4 v ∧ Fe Kn R wid n v := by
    intro d
    induction d with
    | zero =>
      intro m hm hn
      refine ⟨m, by omega, fun i => ⟨fun hc => ?_, fun hi => Cn_le hi (Cn_all hK hw m v (by omega))⟩⟩
      apply Classical.byContradiction
      intro z
      exact hn i (by omega) hc
    | succ d ih =>
      intro m hm hn
      by_cases c : Cn Kn R wid m v
      · refine ⟨m, by omega, fun i => ⟨fun hc => ?_, fun hi => Cn_le hi c⟩⟩
        apply Classical.byContradiction
        intro z
        exact hn i (by omega) hc
      · refine ih (m + 1) (by omega) (fun i hi => ?_)
        by_cases q : i = m
        · rw [q]; exact c
        · exact hn i (by omega)
  exact h (s4 v) 0 (by omega) (fun i hi => by omega)
theorem Fe_u {n m : Nat} {v : Nat → Nat} (h : Fe Kn R wid n v) (h2 : Fe Kn R wid m v) : n = m := by
  have a := (h m).mp ((h2 m).mpr (Nat.le_refl _))
  have b := (h2 n).mp ((h n).mpr (Nat.le_refl _))
  omega
theorem Fe_c {n : Nat} {v v2 : Nat → Nat} (h : ∀ k, k < 4 → v2 k = v k) (hF : Fe Kn R wid n v) : Fe Kn R wid n v2 := fun m => ⟨fun hc => (hF m).mp (Cn_c (fun k hk => (h k hk).symm) hc), fun hm => Cn_c h ((hF m).mpr hm)⟩
theorem Fe_0 {v : Nat → Nat} (h : s4 v = 0) : Fe Kn R wid 0 v := fun m => ⟨fun _ => Nat.zero_le _, fun _ => Cn_le (Nat.zero_le m) (show Cn Kn R wid 0 v from s4_0 h)⟩
/-- one piece more -/
theorem Fe_step {n j : Nat} {v : Nat → Nat} (hj : j < 4) (hK : 1 ≤ Kn) (hw : wid j ≤ R) (hv : 1 ≤ v j) (h : Fe Kn R wid n (sb v (e1 j))) : (Cn Kn R wid n v → Fe Kn R wid n v) ∧ (¬ Cn Kn R wid n v → Fe Kn R wid (n + 1) v) := by
  have hle : le4 (sb v (e1 j)) v := fun k _ => Nat.sub_le _ _
  have lo : ∀ m, Cn Kn R wid m v → n ≤ m := fun m hc => (h m).mp (Cn_mono m hle hc)
  refine ⟨fun c m => ⟨lo m, fun hm => Cn_le hm c⟩, fun c m => ⟨fun hc => ?_, fun hm => Cn_le hm (Cn_e1 hj hK hw hv ((h n).mpr (Nat.le_refl _)))⟩⟩
  have h1 := lo m hc
  by_cases q : m = n
  · rw [q] at hc; exact absurd hc c
  · omega
/-- a pattern that leads on -/
def Sel (Kn R : Nat) (wid : Nat → Nat) (goal : Nat) (v q : Nat → Nat) : Prop := le4 q v ∧ okp Kn R wid q ∧ Cn Kn R wid goal (sb v q)
theorem Sel_C {goal : Nat} {v : Nat → Nat} : Cn Kn R wid (goal + 1) v ↔ ∃ q, Sel Kn R wid goal v q := Iff.rfl
end CnT
