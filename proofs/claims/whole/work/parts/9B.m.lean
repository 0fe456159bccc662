/-! ===== type: a line laid by the class ===== -/
/-- a mark of the text, 0 for a blank -/
def xk (b : Nat → Int32) (p : Nat) : Nat := if b p = 32 then 0 else lx b p + 1
theorem xk_l {b : Nat → Int32} {p : Nat} (h : ltr (b p)) : xk b p = lx b p + 1 := by
  unfold xk
  rw [if_neg (ltr_ne h).1]
theorem xk_b {b : Nat → Int32} {p : Nat} (h : b p = 32) : xk b p = 0 := by
  unfold xk
  rw [if_pos h]
/-- the spaces of a line -/
def spw (each ones q : Nat) : Nat := 3 + each + (if q < ones then 1 else 0)
def mrk (x s : Nat → Nat) (k : Nat) : Int32 := if x k = 0 then -(nI (s (zc x k))) else nI (x k)
/-- a line under way: k marks, c words, q spaces, so wide -/
def LB (x s : Nat → Nat) (a k c q wdt : Nat) (X : pm_II) : Prop := (X a 1 = nI k ∧ X a 2 = nI wdt ∧ X a 3 = nI c ∧ X a 4 = nI (k - q)) ∧ (X a 5 = (if q = 0 then 0 else nI (s 0)) ∧ X a 6 = (if q = 0 then 0 else nI (s (q - 1)))) ∧ zc x k = q ∧ ∀ j, j < k → X (a + 1) j = mrk x s j
section Lay
variable {u : Nat} {J : pm_JJ} {x s : Nat → Nat} {a k c q wdt : Nat} {X : pm_II}
def kL (a c _k : Nat) : Prop := c = a ∨ c = a + 1
theorem tl_start : ∃ Y, F_Tl_start u a X J = some ((), Y, J) ∧ On (kL a) X Y ∧ LB x s a 0 0 0 0 Y := by
  refine ⟨_, rfl, ?_, ⟨⟨?_, ?_, ?_, ?_⟩, ⟨?_, ?_⟩, rfl, fun j hj => absurd hj (Nat.not_lt_zero _)⟩⟩
  · refine On.up (On.up (On.up (On.up (On.up (On.up (On.refl _) ?_) ?_) ?_) ?_) ?_) ?_ <;> exact Or.inl rfl
  all_goals simp [ur, nI_0]
theorem tl_word {w : Nat} (h : LB x s a k c q wdt X) : ∃ Y, F_Tl_addWord u a (nI w) X J = some ((), Y, J) ∧ On (kL a) X Y ∧ LB x s a k (c + 1) q (wdt + w) Y := by
  obtain ⟨⟨h1, h2, h3, h4⟩, ⟨h5, h6⟩, h7, h8⟩ := h
  refine ⟨_, rfl, ?_, ⟨⟨?_, ?_, ?_, ?_⟩, ⟨?_, ?_⟩, h7, fun j hj => ?_⟩⟩
  · refine On.up (On.up (On.refl _) ?_) ?_ <;> exact Or.inl rfl
  · rw [ur, if_neg (by omega), ur, if_neg (by omega)]; exact h1
  · rw [ur, if_pos ⟨rfl, rfl⟩, ur, if_neg (by omega), h2, nI_add]
  · rw [ur, if_neg (by omega), ur, if_pos ⟨rfl, rfl⟩, h3, nI_1]
  · rw [ur, if_neg (by omega), ur, if_neg (by omega)]; exact h4
  · rw [ur, if_neg (by omega), ur, if_neg (by omega)]; exact h5
  · rw [ur, if_neg (by omega), ur, if_neg (by omega)]; exact h6
  · rw [ur, if_neg (by omega), ur, if_neg (by omega)]; exact h8 j hj
theorem tl_letter (h : LB x s a k c q wdt X) (hk : k < 155) (hx : ¬ x k = 0) : ∃ Y, F_Tl_addLetter u a (nI (x k)) X J = some ((), Y, J) ∧ On (kL a) X Y ∧ LB x s a (k + 1) c q wdt Y := by
  obtain ⟨⟨h1, h2, h3, h4⟩, ⟨h5, h6⟩, h7, h8⟩ := h
  have hz := zc_le x k
  have e : F_Tl_addLetter u a (nI (x k)) X J = some ((), pm_up (pm_up (pm_up X (a + 1) k (nI (x k))) a 1 (nI (k + 1))) a 4 (nI (k + 1 - q)), J) := by
    unfold F_Tl_addLetter
    have e1 : (pm_up X (a + 1) k (nI (x k))) a 1 = nI k := by rw [ur, if_neg (by omega)]; exact h1
    have e4 : (pm_up (pm_up X (a + 1) k (nI (x k))) a 1 (nI (k + 1))) a 4 = nI (k - q) := by rw [ur, if_neg (by omega), ur, if_neg (by omega)]; exact h4
    rw [h1, show (155 : Int32) = nI 155 from rfl, if_neg (by rw [nI_leI (by omega) (by omega)]; omega), vqT hk (by omega), nI_clamp (by omega), e1, nI_1, e4, nI_1, show k - q + 1 = k + 1 - q by omega]
    rfl
  refine ⟨_, e, ?_, ⟨⟨?_, ?_, ?_, ?_⟩, ⟨?_, ?_⟩, ?_, fun j hj => ?_⟩⟩
  · exact On.up (On.up (On.up (On.refl _) (Or.inr rfl)) (Or.inl rfl)) (Or.inl rfl)
  · rw [ur, if_neg (by omega), ur, if_pos ⟨rfl, rfl⟩]
  · rw [ur, if_neg (by omega), ur, if_neg (by omega), ur, if_neg (by omega)]; exact h2
  · rw [ur, if_neg (by omega), ur, if_neg (by omega), ur, if_neg (by omega)]; exact h3
  · rw [ur, if_pos ⟨rfl, rfl⟩]
  · rw [ur, if_neg (by omega), ur, if_neg (by omega), ur, if_neg (by omega)]; exact h5
  · rw [ur, if_neg (by omega), ur, if_neg (by omega), ur, if_neg (by omega)]; exact h6
  · rw [zc, if_neg hx]; exact h7
  · rw [ur, if_neg (by omega), ur, if_neg (by omega), ur]
    by_cases z : j = k
    · rw [if_pos ⟨rfl, z⟩, z]
      unfold mrk
      rw [if_neg hx]
    · rw [if_neg (fun y => z y.2)]
      exact h8 j (by omega)
theorem tl_space (h : LB x s a k c q wdt X) (hk : k < 155) (hx : x k = 0) (hs : ∀ q, 0 < s q ∧ s q < 2 ^ 20) : ∃ Y, F_Tl_addSpace u a (nI (s q)) X J = some ((), Y, J) ∧ On (kL a) X Y ∧ LB x s a (k + 1) c (q + 1) (wdt + s q) Y := by
  obtain ⟨⟨h1, h2, h3, h4⟩, ⟨h5, h6⟩, h7, h8⟩ := h
  have hz := zc_le x k
  have hs0 := hs 0
  have e1 : (pm_up X (a + 1) k (-(nI (s q)))) a 1 = nI k := by rw [ur, if_neg (by omega)]; exact h1
  have e2 : (pm_up (pm_up X (a + 1) k (-(nI (s q)))) a 1 (nI (k + 1))) a 2 = nI wdt := by rw [ur, if_neg (by omega), ur, if_neg (by omega)]; exact h2
  have e5 : (pm_up (pm_up (pm_up X (a + 1) k (-(nI (s q)))) a 1 (nI (k + 1))) a 2 (nI (wdt + s q))) a 5 = (if q = 0 then 0 else nI (s 0)) := by rw [ur, if_neg (by omega), ur, if_neg (by omega), ur, if_neg (by omega)]; exact h5
  have e : F_Tl_addSpace u a (nI (s q)) X J = some ((), pm_up (pm_up (pm_up (pm_up (pm_up X (a + 1) k (-(nI (s q)))) a 1 (nI (k + 1))) a 2 (nI (wdt + s q))) a 5 (nI (s 0))) a 6 (nI (s q)), J) := by
    unfold F_Tl_addSpace
    rw [h1, show (155 : Int32) = nI 155 from rfl, if_neg (by rw [nI_leI (by omega) (by omega)]; omega), vqT hk (by omega), nI_clamp (by omega), e1, nI_1, e2, nI_add, e5, cond_true]
    by_cases z : q = 0
    · subst z
      rw [if_neg (by simp)]
    · rw [if_neg z, if_pos (by rw [i0_iff (by omega)]; omega)]
  refine ⟨_, e, ?_, ⟨⟨?_, ?_, ?_, ?_⟩, ⟨?_, ?_⟩, ?_, fun j hj => ?_⟩⟩
  · exact On.up (On.up (On.up (On.up (On.up (On.refl _) (Or.inr rfl)) (Or.inl rfl)) (Or.inl rfl)) (Or.inl rfl)) (Or.inl rfl)
  · rw [ur, if_neg (by omega), ur, if_neg (by omega), ur, if_neg (by omega), ur, if_pos ⟨rfl, rfl⟩]
  · rw [ur, if_neg (by omega), ur, if_neg (by omega), ur, if_pos ⟨rfl, rfl⟩]
  · rw [ur, if_neg (by omega), ur, if_neg (by omega), ur, if_neg (by omega), ur, if_neg (by omega), ur, if_neg (by omega)]; exact h3
  · rw [ur, if_neg (by omega), ur, if_neg (by omega), ur, if_neg (by omega), ur, if_neg (by omega), ur, if_neg (by omega), h4, show k + 1 - (q + 1) = k - q by omega]
  · rw [ur, if_neg (by omega), ur, if_pos ⟨rfl, rfl⟩, if_neg (by omega)]
  · rw [ur, if_pos ⟨rfl, rfl⟩, if_neg (by omega), show q + 1 - 1 = q by omega]
  · rw [zc, if_pos hx, h7]
  · rw [ur, if_neg (by omega), ur, if_neg (by omega), ur, if_neg (by omega), ur, if_neg (by omega), ur]
    by_cases z : j = k
    · rw [if_pos ⟨rfl, z⟩, z]
      unfold mrk
      rw [if_pos hx, h7]
    · rw [if_neg (fun y => z y.2)]
      exact h8 j (by omega)
theorem LB.on {S : Nat → Nat → Prop} {Y : pm_II} (h : LB x s a k c q wdt X) (o : On S X Y) (h1 : ∀ j, ¬ S a j) (h2 : ∀ j, ¬ S (a + 1) j) : LB x s a k c q wdt Y := by
  obtain ⟨⟨a1, a2, a3, a4⟩, ⟨a5, a6⟩, a7, a8⟩ := h
  exact ⟨⟨by rw [o _ _ (h1 _)]; exact a1, by rw [o _ _ (h1 _)]; exact a2, by rw [o _ _ (h1 _)]; exact a3, by rw [o _ _ (h1 _)]; exact a4⟩, ⟨by rw [o _ _ (h1 _)]; exact a5, by rw [o _ _ (h1 _)]; exact a6⟩, a7, fun j hj => by rw [o _ _ (h2 _)]; exact a8 j hj⟩
end Lay
section LayW
variable {u : Nat} {J : pm_JJ} {b : Nat → Int32} {n p W : Nat} {fr ln wd s : Nat → Nat} {a : Nat}
/-- the marks of the line that begins at f0 -/
def xf (b : Nat → Int32) (f0 k : Nat) : Nat := xk b (f0 + k)
theorem lw13 {v f0 : Nat} (hT : TP b W fr ln p) (hn : n = p + 1) (hv : v < W) (hf : f0 ≤ fr v) (h155 : fr v + ln v - f0 ≤ 155) (ha : 57 ≤ a ∧ a + 1 ≤ 88) : ∀ (d i N : Nat) (X : pm_II) (c q wdt : Nat), i + d = ln v → d < N → Tb b n X → CW W fr ln wd X → LB (xf b f0) s a (fr v - f0 + i) c q wdt X → ∃ Y, F_Ty_layWord_13 u N (nI v) a (nI i) X J = some ((), Y, J) ∧ On (kL a) X Y ∧ LB (xf b f0) s a (fr v - f0 + ln v) c q wdt Y := by
  intro d
  have hW := hT.1.2.1
  have hle := TP_le hT hv
  obtain ⟨hl1, hl2, hl3⟩ := hT.2.1 v hv
  induction d with
  | zero =>
    intro i N X c q wdt hi hN hb hC hL
    obtain ⟨N, rfl⟩ : ∃ z, N = z + 1 := ⟨N - 1, by omega⟩
    obtain rfl : i = ln v := by omega
    refine ⟨X, ?_, On.refl _, hL⟩
    rw [F_Ty_layWord_13, vqT (show v < 12 by omega) (by omega), nI_clamp (by omega), (hC.2.1 v hv).2, if_pos (by rw [nI_leI (by omega) (by omega)]; omega)]
    rfl
  | succ d ih =>
    intro i N X c q wdt hi hN hb hC hL
    obtain ⟨N, rfl⟩ : ∃ z, N = z + 1 := ⟨N - 1, by omega⟩
    have hn16 := hb.2.2
    have hlt := hl3 i (by omega)
    obtain ⟨e1, e2⟩ := ltr_nI hlt
    have hxv : xf b f0 (fr v - f0 + i) = lx b (fr v + i) + 1 := by
      unfold xf
      rw [show f0 + (fr v - f0 + i) = fr v + i by omega, xk_l hlt]
    obtain ⟨Y, y1, y2, y3⟩ := tl_letter (u := u) (J := J) hL (by omega) (by rw [hxv]; omega)
    have hbY : Tb b n Y := hb.on y2 (by unfold kL; omega) (fun j => by unfold kL; omega)
    have hCY : CW W fr ln wd Y := hC.on y2 (by unfold kL; omega) (fun j => by unfold kL; omega) (fun j => by unfold kL; omega) (fun j => by unfold kL; omega)
    obtain ⟨Z, z1, z2, z3⟩ := ih (i + 1) N Y c q wdt (by omega) (by omega) hbY hCY y3
    refine ⟨Z, ?_, On.trans y2 z2, z3⟩
    rw [hxv] at y1
    rw [F_Ty_layWord_13, vqT (show v < 12 by omega) (by omega), nI_clamp (by omega), (hC.2.1 v hv).1, (hC.2.1 v hv).2, if_neg (by rw [nI_leI (by omega) (by omega)]; omega), nI_add, x_byteAt (by omega) hb, bd_s, e1, show (97 : Int32) = nI 97 from rfl, pk_sub (by omega), show 97 + lx b (fr v + i) - 97 = lx b (fr v + i) by omega, nI_1, y1, bd_s, nI_io1, nI_add]
    exact z1
theorem c_layWord {v f0 : Nat} {X : pm_II} {ww : Nat → Nat} {c q wdt : Nat} (hu : 40 ≤ u) (hT : TP b W fr ln p) (hn : n = p + 1) (hv : v < W) (hf : f0 ≤ fr v) (h155 : fr v + ln v - f0 ≤ 155) (ha : 57 ≤ a ∧ a + 1 ≤ 88) (hb : Tb b n X) (hC : CW W fr ln wd X) (h54 : X 54 v = nI (ww v)) (hL : LB (xf b f0) s a (fr v - f0) c q wdt X) : ∃ Y, F_Ty_layWord u (nI v) a X J = some ((), Y, J) ∧ On (kL a) X Y ∧ LB (xf b f0) s a (fr v - f0 + ln v) (c + 1) q (wdt + ww v) Y := by
  have hW := hT.1.2.1
  obtain ⟨hl1, hl2, hl3⟩ := hT.2.1 v hv
  obtain ⟨Y, y1, y2, y3⟩ := tl_word (u := u) (J := J) (w := ww v) hL
  have hbY : Tb b n Y := hb.on y2 (by unfold kL; omega) (fun j => by unfold kL; omega)
  have hCY : CW W fr ln wd Y := hC.on y2 (by unfold kL; omega) (fun j => by unfold kL; omega) (fun j => by unfold kL; omega) (fun j => by unfold kL; omega)
  obtain ⟨Z, z1, z2, z3⟩ := lw13 (u := u) (J := J) (wd := wd) hT hn hv hf h155 ha (ln v) 0 u Y (c + 1) q (wdt + ww v) (by omega) (by omega) hbY hCY y3
  refine ⟨Z, ?_, On.trans y2 z2, z3⟩
  unfold F_Ty_layWord
  rw [vqT (show v < 12 by omega) (by omega), nI_clamp (by omega), h54, y1, cond_true, bd_s]
  exact z1
end LayW
