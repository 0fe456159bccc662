/-! ===== type: lines broken by the class ===== -/
/-- how wide a line of c + 1 words from s on is, with its least spaces -/
def lwd (ww : Nat → Nat) (s : Nat) : Nat → Nat
  | 0 => ww s
  | c + 1 => lwd ww s c + 3 + ww (s + c + 1)
theorem lwd_mono {ww : Nat → Nat} {s : Nat} : ∀ d c, lwd ww s c ≤ lwd ww s (c + d)
  | 0, _ => Nat.le_refl _
  | d + 1, c => by
    have h1 := lwd_mono (ww := ww) (s := s) d c
    have e : lwd ww s (c + (d + 1)) = lwd ww s (c + d) + 3 + ww (s + (c + d) + 1) := rfl
    omega
theorem lwd_mono2 {ww : Nat → Nat} {s c c2 : Nat} (h : c ≤ c2) : lwd ww s c ≤ lwd ww s c2 := by
  have := lwd_mono (ww := ww) (s := s) (c2 - c) c
  rw [show c + (c2 - c) = c2 by omega] at this
  exact this
theorem lwd_w {ww : Nat → Nat} {s : Nat} : ∀ c, ww (s + c) ≤ lwd ww s c
  | 0 => Nat.le_refl _
  | c + 1 => by
    have e : lwd ww s (c + 1) = lwd ww s c + 3 + ww (s + c + 1) := rfl
    rw [e, show s + (c + 1) = s + c + 1 by omega]
    omega
theorem lwd_sum {ww : Nat → Nat} {s : Nat} : ∀ c, lwd ww s c = sumN (fun j => ww (s + j)) (c + 1) + 3 * c
  | 0 => by
    show ww s = 0 + ww s + 3 * 0
    omega
  | c + 1 => by
    have h1 := lwd_sum (ww := ww) (s := s) c
    have e : lwd ww s (c + 1) = lwd ww s c + 3 + ww (s + c + 1) := rfl
    have e2 : sumN (fun j => ww (s + j)) (c + 1 + 1) = sumN (fun j => ww (s + j)) (c + 1) + ww (s + (c + 1)) := rfl
    rw [e, e2, show s + (c + 1) = s + c + 1 by omega]
    omega
/-- a line from s to ahead of t -/
def Ln1 (ww : Nat → Nat) (m W s t : Nat) : Prop := s < t ∧ t ≤ W ∧ lwd ww s (t - s - 1) ≤ m ∧ (t < W → m < lwd ww s (t - s - 1) + 3 + ww t)
def Brk (ww : Nat → Nat) (m W : Nat) (ls : Nat → Nat) (k : Nat) : Prop := 1 ≤ k ∧ ls 0 = 0 ∧ ls k = W ∧ ∀ i, i < k → Ln1 ww m W (ls i) (ls (i + 1))
theorem Brk.le {ww : Nat → Nat} {m W k : Nat} {ls : Nat → Nat} (h : Brk ww m W ls k) : ∀ i, i ≤ k → i ≤ ls i
  | 0, _ => Nat.zero_le _
  | i + 1, hi => by
    have h1 := Brk.le h i (by omega)
    have h2 := (h.2.2.2 i (by omega)).1
    omega
theorem Brk.k {ww : Nat → Nat} {m W k : Nat} {ls : Nat → Nat} (h : Brk ww m W ls k) : k ≤ W := by
  have := h.le k (Nat.le_refl _)
  rw [h.2.2.1] at this
  exact this
section Break
variable {u : Nat} {J : pm_JJ} {W m : Nat} {ww : Nat → Nat}
theorem bl_7 (hW : W ≤ 12) (hm : m ≤ 200) (hf : ∀ v, v < W → ww v ≤ m) : ∀ (d w N k : Nat) (ls : Nat → Nat) (X : pm_II), w + d = W → d < N → 1 ≤ k → k ≤ w → X 48 8 = nI W → (∀ v, v < W → X 54 v = nI (ww v)) → (∀ i, i < k → X 55 i = nI (ls i)) → ls 0 = 0 → (∀ i, i + 1 < k → Ln1 ww m W (ls i) (ls (i + 1))) → ls (k - 1) < w → lwd ww (ls (k - 1)) (w - ls (k - 1) - 1) ≤ m → ∃ Y k2 ls2, F_Ty_breakLines_7 u N (nI m) (nI k) (nI (lwd ww (ls (k - 1)) (w - ls (k - 1) - 1))) (nI w) X J = some (nI k2, Y, J) ∧ On (fun c _ => c = 55) X Y ∧ (∀ i, i ≤ k2 → Y 55 i = nI (ls2 i)) ∧ Brk ww m W ls2 k2 := by
  intro d
  induction d with
  | zero =>
    intro w N k ls X hw hN hk hkw h8 h54 h55 h0 hB h1 h2
    obtain ⟨N, rfl⟩ : ∃ z, N = z + 1 := ⟨N - 1, by omega⟩
    obtain rfl : w = W := by omega
    refine ⟨pm_up X 55 k (nI w), k, fun i => if i = k then w else ls i, ?_, On.up (On.refl _) rfl, fun i hi => ?_, hk, ?_, ?_, fun i hi => ?_⟩
    · rw [F_Ty_breakLines_7, h8, if_pos (by rw [nI_leI (by omega) (by omega)]; omega)]
      unfold F_Ty_breakLines_76
      rw [vqT (show k < 13 by omega) (by omega), nI_clamp (by omega), h8]
      rfl
    · rw [ur]
      dsimp only
      by_cases q : i = k
      · rw [if_pos ⟨rfl, q⟩, if_pos q]
      · rw [if_neg (fun z => q z.2), if_neg q]
        exact h55 i (by omega)
    · dsimp only
      rw [if_neg (by omega)]; exact h0
    · dsimp only
      rw [if_pos rfl]
    · dsimp only
      rw [if_neg (by omega)]
      by_cases q : i + 1 = k
      · rw [if_pos q]
        have e : i = k - 1 := by omega
        rw [e]
        exact ⟨h1, Nat.le_refl _, h2, fun z => absurd z (Nat.lt_irrefl _)⟩
      · rw [if_neg q]
        exact hB i (by omega)
  | succ d ih =>
    intro w N k ls X hw hN hk hkw h8 h54 h55 h0 hB h1 h2
    obtain ⟨N, rfl⟩ : ∃ z, N = z + 1 := ⟨N - 1, by omega⟩
    have hww := hf w (by omega)
    have hst : F_Ty_breakLines_7 u (N + 1) (nI m) (nI k) (nI (lwd ww (ls (k - 1)) (w - ls (k - 1) - 1))) (nI w) X J = if lwd ww (ls (k - 1)) (w - ls (k - 1) - 1) + 3 + ww w ≤ m then F_Ty_breakLines_7 u N (nI m) (nI k) (nI (lwd ww (ls (k - 1)) (w - ls (k - 1) - 1) + 3 + ww w)) (nI (w + 1)) X J else F_Ty_breakLines_7 u N (nI m) (nI (k + 1)) (nI (ww w)) (nI (w + 1)) (pm_up X 55 k (nI w)) J := by
      rw [F_Ty_breakLines_7, h8, if_neg (by rw [nI_leI (by omega) (by omega)]; omega), show (12 : Int32) = nI 12 from rfl, if_neg (by rw [nI_leI (by omega) (by omega)]; omega), vqT (show w < 12 by omega) (by omega), nI_clamp (by omega), h54 w (by omega), cond_true, if_neg (by rw [i0_iff (by omega)]; omega), show (3 : Int32) = nI 3 from rfl, nI_add, nI_add, nI_io1, nI_add]
      simp (disch := omega) only [nI_leI]
      unfold F_Ty_breakLines_47
      rw [vqT (show k < 13 by omega) (by omega), vqT (show w < 12 by omega) (by omega), nI_clamp (by omega), nI_clamp (by omega), h54 w (by omega), nI_io1, nI_add, nI_add]
      rfl
    rw [hst]
    by_cases c : lwd ww (ls (k - 1)) (w - ls (k - 1) - 1) + 3 + ww w ≤ m
    · rw [if_pos c]
      have e : lwd ww (ls (k - 1)) (w + 1 - ls (k - 1) - 1) = lwd ww (ls (k - 1)) (w - ls (k - 1) - 1) + 3 + ww w := by
        rw [show w + 1 - ls (k - 1) - 1 = (w - ls (k - 1) - 1) + 1 by omega, lwd, show ls (k - 1) + (w - ls (k - 1) - 1) + 1 = w by omega]
      rw [← e]
      exact ih (w + 1) N k ls X (by omega) (by omega) hk (by omega) h8 h54 h55 h0 hB (by omega) (by rw [e]; exact c)
    · rw [if_neg c]
      have ek : (fun i => if i = k then w else ls i) (k + 1 - 1) = w := by dsimp only; rw [if_pos (by omega)]
      have e : lwd ww ((fun i => if i = k then w else ls i) (k + 1 - 1)) (w + 1 - (fun i => if i = k then w else ls i) (k + 1 - 1) - 1) = ww w := by
        rw [ek, show w + 1 - w - 1 = 0 by omega]
        rfl
      have := ih (w + 1) N (k + 1) (fun i => if i = k then w else ls i) (pm_up X 55 k (nI w)) (by omega) (by omega) (by omega) (by omega) h8 h54 (by
        intro i hi
        rw [ur]
        by_cases q : i = k
        · rw [if_pos ⟨rfl, q⟩, if_pos q]
        · rw [if_neg (fun z => q z.2), if_neg q]
          exact h55 i (by omega)) (by show (if 0 = k then w else ls 0) = 0; rw [if_neg (by omega)]; exact h0) (by
        intro i hi
        rw [if_neg (show ¬ i = k by omega)]
        by_cases q : i + 1 = k
        · rw [if_pos q]
          have e : i = k - 1 := by omega
          rw [e]
          exact ⟨h1, by omega, h2, fun _ => by omega⟩
        · rw [if_neg q]
          exact hB i (by omega)) (by have := ek; dsimp only at this; rw [this]; omega) (by have := e; dsimp only at this; rw [this]; exact hww)
      have e9 := e
      dsimp only at e9
      rw [e9] at this
      obtain ⟨Y, k2, ls2, y1, y2, y3, y4⟩ := this
      exact ⟨Y, k2, ls2, y1, On.trans (On.up (On.refl _) rfl) y2, y3, y4⟩
theorem c_break {X : pm_II} (hu : 40 ≤ u) (hW1 : 1 ≤ W) (hW : W ≤ 12) (hm : m ≤ 200) (hf : ∀ v, v < W → ww v ≤ m) (h8 : X 48 8 = nI W) (h54 : ∀ v, v < W → X 54 v = nI (ww v)) : ∃ Y k ls, F_Ty_breakLines u (nI m) X J = some (nI k, Y, J) ∧ On (fun c _ => c = 55) X Y ∧ (∀ i, i ≤ k → Y 55 i = nI (ls i)) ∧ Brk ww m W ls k := by
  obtain ⟨N, rfl⟩ : ∃ z, u = z + 1 := ⟨u - 1, by omega⟩
  obtain ⟨Y, k2, ls2, y1, y2, y3, y4⟩ := bl_7 (u := N + 1) (J := J) hW hm hf (W - 1) 1 N 1 (fun _ => 0) (pm_up X 55 0 (nI 0)) (by omega) (by omega) (by omega) (by omega) h8 h54 (by
    intro i hi
    rw [ur, if_pos ⟨rfl, by omega⟩]) rfl (fun i hi => by omega) (by omega) (by
    show ww 0 ≤ m
    exact hf 0 (by omega))
  refine ⟨Y, k2, ls2, ?_, On.trans (On.up (On.refl _) rfl) y2, y3, y4⟩
  unfold F_Ty_breakLines
  rw [← y1, F_Ty_breakLines_7, h8, if_neg (by rw [show (0 : Int32) = nI 0 from rfl, nI_leI (by omega) (by omega)]; omega), if_neg (by decide), if_pos rfl]
  unfold F_Ty_breakLines_47
  have e54 : X 54 ((0 : Int32).toNatClampNeg) = nI (ww 0) := h54 0 (by omega)
  rw [e54]
  rfl
end Break
