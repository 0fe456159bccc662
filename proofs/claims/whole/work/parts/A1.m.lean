/-! ===== rolls: the class's states and its search ===== -/
def sd (w : Nat → Nat) : Nat → Nat
  | 0 => (w 3 + 1) * (w 2 + 1) * (w 1 + 1)
  | 1 => (w 3 + 1) * (w 2 + 1)
  | 2 => w 3 + 1
  | _ => 1
def ix (w y : Nat → Nat) : Nat := y 0 * ((w 3 + 1) * (w 2 + 1) * (w 1 + 1)) + y 1 * ((w 3 + 1) * (w 2 + 1)) + y 2 * (w 3 + 1) + y 3
theorem ix_h (w y : Nat → Nat) : ix w y = ((y 0 * (w 1 + 1) + y 1) * (w 2 + 1) + y 2) * (w 3 + 1) + y 3 := by
  unfold ix
  simp only [Nat.add_mul, Nat.mul_add, Nat.mul_one, Nat.one_mul, Nat.mul_assoc, Nat.mul_comm, Nat.mul_left_comm, Nat.add_assoc, Nat.add_comm, Nat.add_left_comm]
theorem ix_inj {w y z : Nat → Nat} (hy : le4 y w) (hz : le4 z w) (h : ix w y = ix w z) : ∀ k, k < 4 → y k = z k := by
  rw [ix_h, ix_h] at h
  have y1 := hy 1 (by omega)
  have y2 := hy 2 (by omega)
  have y3 := hy 3 (by omega)
  have z1 := hz 1 (by omega)
  have z2 := hz 2 (by omega)
  have z3 := hz 3 (by omega)
  obtain ⟨h1, a3⟩ := dm_inj (show y 3 < w 3 + 1 by omega) (show z 3 < w 3 + 1 by omega) h
  obtain ⟨h2, a2⟩ := dm_inj (show y 2 < w 2 + 1 by omega) (show z 2 < w 2 + 1 by omega) h1
  obtain ⟨a0, a1⟩ := dm_inj (show y 1 < w 1 + 1 by omega) (show z 1 < w 1 + 1 by omega) h2
  intro k hk
  have : k = 0 ∨ k = 1 ∨ k = 2 ∨ k = 3 := by omega
  rcases this with rfl | rfl | rfl | rfl <;> assumption
theorem ix_le {w y z : Nat → Nat} (h : le4 y z) : ix w y ≤ ix w z := by
  unfold ix
  have h0 := Nat.mul_le_mul_right ((w 3 + 1) * (w 2 + 1) * (w 1 + 1)) (h 0 (by omega))
  have h1 := Nat.mul_le_mul_right ((w 3 + 1) * (w 2 + 1)) (h 1 (by omega))
  have h2 := Nat.mul_le_mul_right (w 3 + 1) (h 2 (by omega))
  have h3 := h 3 (by omega)
  omega
theorem p625 : ∀ a, a < 10 → ∀ b, b < 10 → ∀ c, c < 10 → ∀ d, d < 10 → a + b + c + d ≤ 16 → a * ((d + 1) * (c + 1) * (b + 1)) + b * ((d + 1) * (c + 1)) + c * (d + 1) + d ≤ 624 := by decide +kernel
theorem ix_624 {w y : Nat → Nat} (h9 : ∀ k, k < 4 → w k ≤ 9) (hs : s4 w ≤ 16) (h : le4 y w) : ix w y ≤ 624 := by
  refine Nat.le_trans (ix_le h) ?_
  unfold s4 at hs
  have a0 := h9 0 (by omega)
  have a1 := h9 1 (by omega)
  have a2 := h9 2 (by omega)
  have a3 := h9 3 (by omega)
  exact p625 (w 0) (by omega) (w 1) (by omega) (w 2) (by omega) (w 3) (by omega) (by omega)
/-- less of one kind -/
def lss (y : Nat → Nat) (j n : Nat) : Nat → Nat := fun k => if k = j then y k - n else y k
theorem ix_lss {w y : Nat → Nat} {j n : Nat} (hj : j < 4) (hn : n ≤ y j) : ix w (lss y j n) + n * sd w j = ix w y := by
  have hm : ∀ A, (y j - n) * A + n * A = y j * A := fun A => by rw [← Nat.add_mul, Nat.sub_add_cancel hn]
  have : j = 0 ∨ j = 1 ∨ j = 2 ∨ j = 3 := by omega
  rcases this with rfl | rfl | rfl | rfl
  · have e := hm ((w 3 + 1) * (w 2 + 1) * (w 1 + 1))
    unfold ix lss sd
    simp only [if_pos, if_neg (show ¬ (1 = 0) by omega), if_neg (show ¬ (2 = 0) by omega), if_neg (show ¬ (3 = 0) by omega)]
    omega
  · have e := hm ((w 3 + 1) * (w 2 + 1))
    unfold ix lss sd
    simp only [if_pos, if_neg (show ¬ (0 = 1) by omega), if_neg (show ¬ (2 = 1) by omega), if_neg (show ¬ (3 = 1) by omega)]
    omega
  · have e := hm (w 3 + 1)
    unfold ix lss sd
    simp only [if_pos, if_neg (show ¬ (0 = 2) by omega), if_neg (show ¬ (1 = 2) by omega), if_neg (show ¬ (3 = 2) by omega)]
    omega
  · unfold ix lss sd
    simp only [if_pos, if_neg (show ¬ (0 = 3) by omega), if_neg (show ¬ (1 = 3) by omega), if_neg (show ¬ (2 = 3) by omega)]
    omega
def Suf (wid : Nat → Nat) (G : (Nat → Nat) → Prop) (q : Nat → Nat) : Nat → Nat → Nat → Nat → (Nat → Nat) → Prop
  | 0, _, _, _, y => G y
  | m + 1, j, f, r, y => q j ≤ y j ∧ q j ≤ f ∧ q j * wid j ≤ r ∧ Suf wid G q m (j + 1) (f - q j) (r - q j * wid j) (lss y j (q j))
def lexq (q2 q : Nat → Nat) : Nat → Nat → Prop
  | 0, _ => True
  | m + 1, j => q2 j < q j ∨ (q2 j = q j ∧ lexq q2 q m (j + 1))
theorem Suf_c {wid : Nat → Nat} {G : (Nat → Nat) → Prop} {q q2 : Nat → Nat} : ∀ m j f r y, (∀ k, j ≤ k → q2 k = q k) → Suf wid G q m j f r y → Suf wid G q2 m j f r y
  | 0, _, _, _, _, _, h => h
  | m + 1, j, f, r, y, hk, h => by
    have e := hk j (Nat.le_refl _)
    unfold Suf at h ⊢
    rw [e]
    exact ⟨h.1, h.2.1, h.2.2.1, Suf_c m (j + 1) _ _ _ (fun k hk2 => hk k (by omega)) h.2.2.2⟩
theorem lexq_c {q2 q q3 : Nat → Nat} : ∀ m j, (∀ k, j ≤ k → q3 k = q k) → lexq q2 q m j → lexq q2 q3 m j
  | 0, _, _, _ => trivial
  | m + 1, j, hk, h => by
    have e := hk j (Nat.le_refl _)
    unfold lexq at h ⊢
    rw [e]
    rcases h with h | ⟨h1, h2⟩
    · exact Or.inl h
    · exact Or.inr ⟨h1, lexq_c m (j + 1) (fun k hk2 => hk k (by omega)) h2⟩
section Reach
variable {u : Nat} {J : pm_JJ} {Kn R goal : Nat} {wid w v : Nat → Nat}
def XF (Kn R goal : Nat) (wid w v : Nat → Nat) (X : pm_II) : Prop := (∀ k, k < 4 → X 20 k = nI (wid k) ∧ X 24 k = nI (sd w k) ∧ X 25 k = nI (v k)) ∧ ∀ y, le4 y v → ∃ x, x < 1000 ∧ X 27 (ix w y) = nI x ∧ (x ≤ goal ↔ Cn Kn R wid goal y)
theorem XF.on {X Y : pm_II} {S : Nat → Nat → Prop} (h : XF Kn R goal wid w v X) (o : On S X Y) (h20 : ∀ k, ¬ S 20 k) (h24 : ∀ k, ¬ S 24 k) (h25 : ∀ k, ¬ S 25 k) (h27 : ∀ k, ¬ S 27 k) : XF Kn R goal wid w v Y := ⟨fun k hk => by rw [o _ _ (h20 k), o _ _ (h24 k), o _ _ (h25 k)]; exact h.1 k hk, fun y hy => by rw [o _ _ (h27 _)]; exact h.2 y hy⟩
def mo (wid v : Nat → Nat) (j f r : Nat) : Nat := if wid j = 0 then 0 else min (min (v j) f) (r / wid j)
theorem mo_iff {j f r n : Nat} (h0 : wid j = 0 → v j = 0) : n ≤ mo wid v j f r ↔ n ≤ v j ∧ n ≤ f ∧ n * wid j ≤ r := by
  unfold mo
  by_cases c : wid j = 0
  · rw [if_pos c, h0 c, c]
    omega
  · rw [if_neg c]
    have := Nat.le_div_iff_mul_le (x := n) (y := r) (show 0 < wid j by omega)
    constructor
    · intro h
      exact ⟨by omega, by omega, this.mp (by omega)⟩
    · intro ⟨a, b, d⟩
      have := this.mpr d
      omega
theorem c_most {j f r : Nat} {X : pm_II} (hX : XF Kn R goal wid w v X) (hj : j < 4) (hv : v j ≤ 1000) (hf : f ≤ 1000) (hr : r ≤ 1000) (hw : wid j ≤ 1000) : F_Ro_mostOf u (nI j) (nI f) (nI r) X J = some (nI (mo wid v j f r), X, J) := by
  unfold F_Ro_mostOf mo
  obtain ⟨h1, h2, h3⟩ := hX.1 j hj
  rw [vqT hj (by omega), nI_clamp (by omega), h3, cond_true, j_minN (by omega) (by omega), bd_s, h1, cond_true, cond_true]
  by_cases c : wid j = 0
  · rw [if_pos c, c, if_pos (by decide)]
    rfl
  · have hd := Nat.div_le_self r (wid j)
    rw [if_neg c, if_neg (by rw [← nI_0, nI_leI (by omega) (by omega)]; omega), if_pos (by rw [i0_iff (by omega)]; exact c), pk_div (by omega) (by omega) (by omega), j_minN (by omega) (by omega), bd_s]
theorem lss_le {y : Nat → Nat} {j n : Nat} (h : le4 y v) : le4 (lss y j n) v := fun k hk => by
  have := h k hk
  unfold lss
  split <;> omega
def RS (Kn R goal : Nat) (wid : Nat → Nat) (m j f r : Nat) (y : Nat → Nat) (res : Bool) (X : pm_II) : Prop := (res = true → ∃ q, Suf wid (Cn Kn R wid goal) q m j f r y ∧ (∀ k, j ≤ k → k < 4 → X 26 k = nI (q k)) ∧ ∀ q2, Suf wid (Cn Kn R wid goal) q2 m j f r y → lexq q2 q m j) ∧ (res = false → ∀ q2, ¬ Suf wid (Cn Kn R wid goal) q2 m j f r y)
theorem nI_prd {n : Nat} (h : 1 ≤ n) : nI n + Int32.ofInt (-1) = nI (n - 1) := by rw [nI_iom1, ← Int32.sub_eq_add_neg, nl_1, pk_sub h]
theorem c_87 {m j f r N2 : Nat} {y : Nat → Nat} (hj : j < 4) (hv : le4 v w) (h9 : ∀ k, k < 4 → w k ≤ 9) (hs : s4 w ≤ 16) (hwid : ∀ k, k < 4 → wid k ≤ 1000) (h0 : ∀ k, k < 4 → wid k = 0 → v k = 0) (hf : f ≤ 1000) (hr : r ≤ 1000) (hg : goal < 100) (hy : le4 y v) (hyj : y j = v j) (hyk : ∀ k, j ≤ k → k < 4 → y k = v k)
    (ih : ∀ (f r : Nat) (y : Nat → Nat) (X : pm_II), f ≤ 1000 → r ≤ 1000 → le4 y v → (∀ k, j + 1 ≤ k → k < 4 → y k = v k) → XF Kn R goal wid w v X → ∃ X2 res, F_Ro_reaches_r u N2 (nI (j + 1)) (nI f) (nI r) (nI (ix w y)) (nI goal) X J = some (b2i res, X2, J) ∧ On (fun c k => c = 26 ∧ j + 1 ≤ k) X X2 ∧ RS Kn R goal wid m (j + 1) f r y res X2) : ∀ (n N : Nat) (X : pm_II), n + 1 < N → n ≤ mo wid v j f r → XF Kn R goal wid w v X → (∀ q2, Suf wid (Cn Kn R wid goal) q2 (m + 1) j f r y → q2 j ≤ n) → ∃ X2 res, F_Ro_reaches_87 u (F_Ro_reaches_r u N2) N (nI j) (nI f) (nI r) (nI (ix w y)) (nI goal) (nI n) X J = some (b2i res, X2, J) ∧ On (fun c k => c = 26 ∧ j ≤ k) X X2 ∧ RS Kn R goal wid (m + 1) j f r y res X2 := by
  intro n
  have hvj : v j ≤ 9 := Nat.le_trans (hv j hj) (h9 j hj)
  have hix : ix w y ≤ 624 := ix_624 h9 hs (hy.trans hv)
  induction n with
  | zero =>
    intro N X hN hn hX hlt
    obtain ⟨N, rfl⟩ : ∃ z, N = z + 2 := ⟨N - 2, by omega⟩
    obtain ⟨a1, a2, a3⟩ := (mo_iff (h0 j hj)).mp hn
    obtain ⟨b1, b2, b3⟩ := hX.1 j hj
    have hX1 : XF Kn R goal wid w v (pm_up X 26 j (nI 0)) := hX.on (S := fun c _ => c = 26) (On.up (On.refl _) rfl) (fun k => by omega) (fun k => by omega) (fun k => by omega) (fun k => by omega)
    obtain ⟨X2, res, r1, r2, r3⟩ := ih (f - 0) (r - 0 * wid j) (lss y j 0) (pm_up X 26 j (nI 0)) (by omega) (by omega) (lss_le hy) (fun k hk hk4 => by unfold lss; rw [if_neg (by omega)]; exact hyk k (by omega) hk4) hX1
    have hlx := ix_lss (w := w) (y := y) (n := 0) hj (Nat.zero_le _)
    have hcall : F_Ro_reaches_87 u (F_Ro_reaches_r u N2) (N + 2) (nI j) (nI f) (nI r) (nI (ix w y)) (nI goal) (nI 0) X J = if b2i res = 0 then F_Ro_reaches_87 u (F_Ro_reaches_r u N2) (N + 1) (nI j) (nI f) (nI r) (nI (ix w y)) (nI goal) (nI 0 + Int32.ofInt (-1)) X2 J else some (1, X2, J) := by
      rw [F_Ro_reaches_87, if_neg (by decide), vqT hj (by omega), nI_clamp (by omega), b1, b2, nI_1, pk_mul, pk_mul, pk_sub (by omega), pk_sub a3, pk_sub (by omega), show ix w y - 0 * sd w j = ix w (lss y j 0) by omega, r1, bd_s]
      rfl
    have oX : On (fun c k => c = 26 ∧ j ≤ k) X X2 := On.trans (On.up (On.refl _) ⟨rfl, Nat.le_refl _⟩) (r2.mono (fun c k z => ⟨z.1, by omega⟩))
    rw [hcall, b2i_if0]
    cases res with
    | true =>
      obtain ⟨q, q1, q2, q3⟩ := r3.1 rfl
      refine ⟨X2, true, rfl, oX, fun _ => ⟨fun k => if k = j then 0 else q k, ?_, fun k hk hk4 => ?_, fun q4 hq4 => ?_⟩, fun z => by cases z⟩
      · unfold Suf
        rw [if_pos rfl]
        exact ⟨Nat.zero_le _, Nat.zero_le _, a3, Suf_c m (j + 1) _ _ _ (fun k hk => by rw [if_neg (by omega)]) q1⟩
      · dsimp only
        by_cases c : k = j
        · rw [if_pos c, r2 26 k (by omega), ur, if_pos ⟨rfl, c⟩]
        · rw [if_neg c]
          exact q2 k (by omega) hk4
      · have h1 := hlt q4 hq4
        unfold Suf at hq4
        have e : q4 j = 0 := by omega
        rw [e] at hq4
        exact Or.inr ⟨by dsimp only; rw [if_pos rfl]; exact e, lexq_c m (j + 1) (fun k hk => by rw [if_neg (by omega)]) (q3 q4 hq4.2.2.2)⟩
    | false =>
      refine ⟨X2, false, ?_, oX, (fun z => by cases z), fun _ q4 hq4 => ?_⟩
      · rw [cond_false, F_Ro_reaches_87, if_pos (by decide)]
        rfl
      · have h1 := hlt q4 hq4
        unfold Suf at hq4
        have e : q4 j = 0 := by omega
        rw [e] at hq4
        exact r3.2 rfl q4 hq4.2.2.2
  | succ n ihn =>
    intro N X hN hn hX hlt
    obtain ⟨N, rfl⟩ : ∃ z, N = z + 1 := ⟨N - 1, by omega⟩
    obtain ⟨a1, a2, a3⟩ := (mo_iff (h0 j hj)).mp hn
    obtain ⟨b1, b2, b3⟩ := hX.1 j hj
    have hX1 : XF Kn R goal wid w v (pm_up X 26 j (nI (n + 1))) := hX.on (S := fun c _ => c = 26) (On.up (On.refl _) rfl) (fun k => by omega) (fun k => by omega) (fun k => by omega) (fun k => by omega)
    obtain ⟨X2, res, r1, r2, r3⟩ := ih (f - (n + 1)) (r - (n + 1) * wid j) (lss y j (n + 1)) (pm_up X 26 j (nI (n + 1))) (by omega) (by omega) (lss_le hy) (fun k hk hk4 => by unfold lss; rw [if_neg (by omega)]; exact hyk k (by omega) hk4) hX1
    have hlx := ix_lss (w := w) (y := y) (n := n + 1) hj (by rw [hyj]; exact a1)
    have hcall : F_Ro_reaches_87 u (F_Ro_reaches_r u N2) (N + 1) (nI j) (nI f) (nI r) (nI (ix w y)) (nI goal) (nI (n + 1)) X J = if b2i res = 0 then F_Ro_reaches_87 u (F_Ro_reaches_r u N2) N (nI j) (nI f) (nI r) (nI (ix w y)) (nI goal) (nI n) X2 J else some (1, X2, J) := by
      rw [F_Ro_reaches_87, if_neg (nI_pos (by omega)), vqT hj (by omega), nI_clamp (by omega), b1, b2, nI_1, pk_mul, pk_mul, pk_sub (by omega), pk_sub a3, pk_sub (by omega), show ix w y - (n + 1) * sd w j = ix w (lss y j (n + 1)) by omega, r1, bd_s, nI_prd (by omega)]
      rfl
    have oX : On (fun c k => c = 26 ∧ j ≤ k) X X2 := On.trans (On.up (On.refl _) ⟨rfl, Nat.le_refl _⟩) (r2.mono (fun c k z => ⟨z.1, by omega⟩))
    rw [hcall, b2i_if0]
    cases res with
    | true =>
      obtain ⟨q, q1, q2, q3⟩ := r3.1 rfl
      refine ⟨X2, true, rfl, oX, fun _ => ⟨fun k => if k = j then n + 1 else q k, ?_, fun k hk hk4 => ?_, fun q4 hq4 => ?_⟩, fun z => by cases z⟩
      · unfold Suf
        rw [if_pos rfl]
        exact ⟨by rw [hyj]; exact a1, a2, a3, Suf_c m (j + 1) _ _ _ (fun k hk => by rw [if_neg (by omega)]) q1⟩
      · dsimp only
        by_cases c : k = j
        · rw [if_pos c, r2 26 k (by omega), ur, if_pos ⟨rfl, c⟩]
        · rw [if_neg c]
          exact q2 k (by omega) hk4
      · have h1 := hlt q4 hq4
        unfold Suf at hq4
        by_cases e : q4 j = n + 1
        · rw [e] at hq4
          exact Or.inr ⟨by dsimp only; rw [if_pos rfl]; exact e, lexq_c m (j + 1) (fun k hk => by rw [if_neg (by omega)]) (q3 q4 hq4.2.2.2)⟩
        · exact Or.inl (by dsimp only; rw [if_pos rfl]; omega)
    | false =>
      have hX2 : XF Kn R goal wid w v X2 := hX.on oX (fun k => by omega) (fun k => by omega) (fun k => by omega) (fun k => by omega)
      obtain ⟨X3, res3, s1, s2, s3⟩ := ihn N X2 (by omega) (by omega) hX2 (fun q4 hq4 => by
        have h1 := hlt q4 hq4
        by_cases e : q4 j = n + 1
        · unfold Suf at hq4
          rw [e] at hq4
          exact absurd hq4.2.2.2 (r3.2 rfl q4)
        · omega)
      exact ⟨X3, res3, s1, On.trans oX s2, s3⟩
end Reach
