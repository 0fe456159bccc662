/-! ===== type: words measured and counted; enough sorts; words that fit ===== -/
def lx (b : Nat → Int32) (j : Nat) : Nat := (b j).toInt.toNat - 97
theorem ltr_nI {b : Nat → Int32} {j : Nat} (h : ltr (b j)) : b j = nI (97 + lx b j) ∧ lx b j < 26 := by
  have h1 := Int32.le_iff_toInt_le.mp h.1
  have h2 := Int32.le_iff_toInt_le.mp h.2
  have e1 : ((97 : Int32)).toInt = 97 := by decide
  have e2 : ((122 : Int32)).toInt = 122 := by decide
  rw [e1] at h1
  rw [e2] at h2
  have hd : lx b j = (b j).toInt.toNat - 97 := rfl
  refine ⟨Int32.toInt_inj.mp ?_, by omega⟩
  rw [nI_toInt (by omega)]
  omega
/-- how often a letter stands ahead of a place -/
def cl (b : Nat → Int32) (p k : Nat) : Nat := cnt (fun j => decide ((97 ≤ b j ∧ b j ≤ 122) ∧ lx b j = k)) p
theorem cl_s1 {b : Nat → Int32} {p k : Nat} (h : ltr (b p)) (hk : lx b p = k) : cl b (p + 1) k = cl b p k + 1 := by
  unfold cl
  rw [cnt, decide_eq_true ⟨h, hk⟩]
  rfl
theorem cl_s0 {b : Nat → Int32} {p k : Nat} (h : ¬ (ltr (b p) ∧ lx b p = k)) : cl b (p + 1) k = cl b p k := by
  have h' : ¬ ((97 ≤ b p ∧ b p ≤ 122) ∧ lx b p = k) := h
  unfold cl
  rw [cnt, decide_eq_false h']
  rfl
theorem cl_le {b : Nat → Int32} {p k : Nat} : cl b p k ≤ p := cnt_le p
/-- how wide so many letters are -/
def wsm (b : Nat → Int32) (wd : Nat → Nat) (p i : Nat) : Nat := sumN (fun j => wd (lx b (p + j))) i
theorem wsm_le {b : Nat → Int32} {wd : Nat → Nat} {p : Nat} (h : ∀ k, wd k ≤ 20) : ∀ i, wsm b wd p i ≤ 20 * i
  | 0 => Nat.le_refl _
  | i + 1 => by
    have h1 := wsm_le (b := b) (p := p) h i
    have h2 := h (lx b (p + i))
    have e : wsm b wd p (i + 1) = wsm b wd p i + wd (lx b (p + i)) := rfl
    omega
theorem TP_lt {b : Nat → Int32} {w p : Nat} {fr ln : Nat → Nat} (h : TP b w fr ln p) : ∀ d v, v + d + 1 = w → fr v + ln v ≤ p
  | 0, v, hv => by
    have := h.2.2.2
    rw [show w - 1 = v by omega] at this
    omega
  | d + 1, v, hv => by
    have h1 := TP_lt h d (v + 1) (by omega)
    have h2 := (h.2.2.1 v (by omega)).1
    omega
theorem TP_le {b : Nat → Int32} {w p v : Nat} {fr ln : Nat → Nat} (h : TP b w fr ln p) (hv : v < w) : fr v + ln v ≤ p := TP_lt h (w - 1 - v) v (by omega)
section Measure
variable {u : Nat} {J : pm_JJ} {b : Nat → Int32} {n p W : Nat} {fr ln wd : Nat → Nat}
theorem x_byteAt {X : pm_II} {j : Nat} (hj : j < n) (hb : Tb b n X) : F_Ta_byteAt u (nI j) X J = some (b j, X, J) := by
  unfold F_Ta_byteAt
  have hn := hb.2.2
  rw [if_neg (nI_pos (by omega)), hb.2.1, if_neg (by rw [nI_leI (by omega) (by omega)]; omega), vqT (show j < 1600 by omega) (by omega), nI_clamp (by omega), hb.1 j hj]
  rfl
/-- what the class has of the text -/
def CW (W : Nat) (fr ln wd : Nat → Nat) (X : pm_II) : Prop := X 48 8 = nI W ∧ (∀ v, v < W → X 52 v = nI (fr v) ∧ X 53 v = nI (ln v)) ∧ ∀ k, k < 26 → X 50 k = nI (wd k)
theorem CW.on {S : Nat → Nat → Prop} {X Y : pm_II} (h : CW W fr ln wd X) (o : On S X Y) (h1 : ¬ S 48 8) (h2 : ∀ v, ¬ S 52 v) (h3 : ∀ v, ¬ S 53 v) (h4 : ∀ v, ¬ S 50 v) : CW W fr ln wd Y := ⟨by rw [o _ _ h1]; exact h.1, fun v hv => by rw [o _ _ (h2 v), o _ _ (h3 v)]; exact h.2.1 v hv, fun k hk => by rw [o _ _ (h4 k)]; exact h.2.2 k hk⟩
def kM (c _k : Nat) : Prop := c = 51 ∨ c = 54
theorem mw46 {K : Int32 → pm_II → pm_JJ → Option (Unit × pm_II × pm_JJ)} {v : Nat} (hT : TP b W fr ln p) (hn : n = p + 1) (hv : v < W) (hw : ∀ k, wd k ≤ 20) : ∀ (d i N : Nat) (X : pm_II), i + d = ln v → d < N → Tb b n X → CW W fr ln wd X → (∀ k, k < 26 → X 51 k = nI (cl b (fr v + i) k)) → X 54 v = nI (wsm b wd (fr v) i) → ∃ Y, F_Ty_measureWords_46 u K N (nI v) (nI i) X J = K (nI (v + 1)) Y J ∧ On (fun c k => c = 51 ∨ (c = 54 ∧ k = v)) X Y ∧ (∀ k, k < 26 → Y 51 k = nI (cl b (fr v + ln v) k)) ∧ Y 54 v = nI (wsm b wd (fr v) (ln v)) := by
  intro d
  have hW := hT.1.2.1
  have hle := TP_le hT hv
  obtain ⟨hl1, hl2, hl3⟩ := hT.2.1 v hv
  induction d with
  | zero =>
    intro i N X hi hN hb hC h51 h54
    obtain ⟨N, rfl⟩ : ∃ z, N = z + 1 := ⟨N - 1, by omega⟩
    obtain rfl : i = ln v := by omega
    refine ⟨X, ?_, On.refl _, h51, h54⟩
    rw [F_Ty_measureWords_46, vqT (show v < 12 by omega) (by omega), nI_clamp (by omega), (hC.2.1 v hv).2, if_pos (by rw [nI_leI (by omega) (by omega)]; omega), nI_io1, nI_add]
    rfl
  | succ d ih =>
    intro i N X hi hN hb hC h51 h54
    obtain ⟨N, rfl⟩ : ∃ z, N = z + 1 := ⟨N - 1, by omega⟩
    have hn16 := hb.2.2
    obtain ⟨e1, e2⟩ := ltr_nI (hl3 i (by omega))
    have hwl := wsm_le (b := b) (p := fr v) hw i
    have hcl := cl_le (b := b) (p := fr v + i) (k := lx b (fr v + i))
    have hwx := hw (lx b (fr v + i))
    obtain ⟨Y, y1, y2, y3, y4⟩ := ih (i + 1) N (pm_up (pm_up X 51 (lx b (fr v + i)) (nI (cl b (fr v + i) (lx b (fr v + i)) + 1))) 54 v (nI (wsm b wd (fr v) (i + 1)))) (by omega) (by omega) ((hb.put (by decide) (by decide)).put (by decide) (by decide)) (hC.on (S := fun c _ => c = 51 ∨ c = 54) (On.up (On.up (On.refl _) (by omega)) (by omega)) (by omega) (fun v => by omega) (fun v => by omega) (fun v => by omega)) (by
      intro k hk
      rw [ur, if_neg (by omega), ur]
      by_cases q : k = lx b (fr v + i)
      · rw [if_pos ⟨rfl, q⟩, ← q, show fr v + (i + 1) = fr v + i + 1 by omega, cl_s1 (hl3 i (by omega)) q.symm]
      · rw [if_neg (fun z => q z.2), h51 k hk, show fr v + (i + 1) = fr v + i + 1 by omega, cl_s0 (fun z => q z.2.symm)]) (by rw [ur, if_pos ⟨rfl, rfl⟩])
    refine ⟨Y, ?_, On.trans (On.up (On.up (On.refl _) (by omega)) (by omega)) y2, y3, y4⟩
    rw [← y1, F_Ty_measureWords_46, vqT (show v < 12 by omega) (by omega), nI_clamp (by omega), (hC.2.1 v hv).1, (hC.2.1 v hv).2, if_neg (by rw [nI_leI (by omega) (by omega)]; omega), nI_add, x_byteAt (by omega) hb, bd_s, e1, show (97 : Int32) = nI 97 from rfl, pk_sub (by omega), show 97 + lx b (fr v + i) - 97 = lx b (fr v + i) by omega]
    rw [if_neg (nI_pos (by omega)), if_neg (by rw [show (26 : Int32) = nI 26 from rfl, nI_leI (by omega) (by omega)]; omega), vqT (show lx b (fr v + i) < 26 by omega) (by omega), nI_clamp (by omega), h51 _ e2, h54, hC.2.2 _ e2, nI_1, nI_add, nI_io1, nI_add]
    rfl
/-- the place behind so many words -/
def stp (fr ln : Nat → Nat) (v : Nat) : Nat := match v with
  | 0 => 0
  | v + 1 => fr v + ln v
theorem cl_stp {v k : Nat} (hT : TP b W fr ln p) (hv : v < W) : cl b (stp fr ln v) k = cl b (fr v) k := by
  cases v with
  | zero => rw [hT.1.2.2]; rfl
  | succ v =>
    obtain ⟨e1, e2⟩ := hT.2.2.1 v hv
    show cl b (fr v + ln v) k = _
    rw [e1, cl_s0 (fun z => (ltr_ne z.1).1 e2)]
theorem mw23 (hu : 20 ≤ u) (hT : TP b W fr ln p) (hn : n = p + 1) (h10 : b p = 10) (hw : ∀ k, wd k ≤ 20) : ∀ (d v N : Nat) (X : pm_II), v + d = W → d < N → Tb b n X → CW W fr ln wd X → (∀ k, k < 26 → X 51 k = nI (cl b (stp fr ln v) k)) → (∀ w, w < v → X 54 w = nI (wsm b wd (fr w) (ln w))) → ∃ Y, F_Ty_measureWords_23 u N (nI v) X J = some ((), Y, J) ∧ On kM X Y ∧ (∀ k, k < 26 → Y 51 k = nI (cl b n k)) ∧ ∀ w, w < W → Y 54 w = nI (wsm b wd (fr w) (ln w)) := by
  intro d
  have hW := hT.1.2.1
  induction d with
  | zero =>
    intro v N X hi hN hb hC h51 h54
    obtain ⟨N, rfl⟩ : ∃ z, N = z + 1 := ⟨N - 1, by omega⟩
    obtain rfl : v = W := by omega
    refine ⟨X, ?_, On.refl _, fun k hk => ?_, h54⟩
    · rw [F_Ty_measureWords_23, hC.1, if_pos (by rw [nI_leI (by omega) (by omega)]; omega)]
      rfl
    · rw [h51 k hk, hn, cl_s0 (fun z => (ltr_ne z.1).2.1 h10)]
      have e : stp fr ln v = p := by
        obtain ⟨q, rfl⟩ : ∃ q, v = q + 1 := ⟨v - 1, by have := hT.1.1; omega⟩
        exact hT.2.2.2
      rw [e]
  | succ d ih =>
    intro v N X hi hN hb hC h51 h54
    obtain ⟨N, rfl⟩ : ∃ z, N = z + 1 := ⟨N - 1, by omega⟩
    have hln := (hT.2.1 v (by omega)).2.1
    obtain ⟨Y, y1, y2, y3, y4⟩ := mw46 (u := u) (J := J) (K := F_Ty_measureWords_23 u N) hT hn (show v < W by omega) hw (ln v) 0 u (pm_up X 54 v 0) (by omega) (by omega) (hb.put (by decide) (by decide)) (hC.on (S := fun c _ => c = 54) (On.up (On.refl _) rfl) (by omega) (fun v => by omega) (fun v => by omega) (fun v => by omega)) (by
      intro k hk
      rw [ur, if_neg (by omega), h51 k hk, cl_stp hT (by omega)]
      rfl) (by rw [ur, if_pos ⟨rfl, rfl⟩]; rfl)
    have oX : On kM X Y := On.trans (On.up (On.refl _) (Or.inr rfl)) (y2.mono (fun c k z => by unfold kM; omega))
    obtain ⟨Z, z1, z2, z3, z4⟩ := ih (v + 1) N Y (by omega) (by omega) (hb.on oX (by unfold kM; omega) (fun j => by unfold kM; omega)) (hC.on oX (by unfold kM; omega) (fun v => by unfold kM; omega) (fun v => by unfold kM; omega) (fun v => by unfold kM; omega)) y3 (by
      intro w hw2
      by_cases q : w = v
      · subst q; exact y4
      · rw [y2 54 w (by omega), ur, if_neg (by omega)]
        exact h54 w (by omega))
    refine ⟨Z, ?_, On.trans oX z2, z3, z4⟩
    rw [← z1, ← y1, F_Ty_measureWords_23, hC.1, if_neg (by rw [nI_leI (by omega) (by omega)]; omega), show (12 : Int32) = nI 12 from rfl, if_neg (by rw [nI_leI (by omega) (by omega)]; omega), vqT (show v < 12 by omega) (by omega), nI_clamp (by omega)]
    rfl
theorem mw2 (hu : 40 ≤ u) (hT : TP b W fr ln p) (hn : n = p + 1) (h10 : b p = 10) (hw : ∀ k, wd k ≤ 20) : ∀ (d k N : Nat) (X : pm_II), k + d = 26 → d < N → Tb b n X → CW W fr ln wd X → (∀ j, j < k → X 51 j = 0) → ∃ Y, F_Ty_measureWords_2 u N (nI k) X J = some ((), Y, J) ∧ On kM X Y ∧ (∀ k, k < 26 → Y 51 k = nI (cl b n k)) ∧ ∀ w, w < W → Y 54 w = nI (wsm b wd (fr w) (ln w)) := by
  intro d
  have hW := hT.1.2.1
  induction d with
  | zero =>
    intro k N X hk hN hb hC h0
    obtain ⟨N, rfl⟩ : ∃ z, N = z + 1 := ⟨N - 1, by omega⟩
    obtain rfl : k = 26 := by omega
    obtain ⟨Y, y1, y2, y3, y4⟩ := mw23 (u := u) (J := J) (by omega) hT hn h10 hw W 0 u X (by omega) (by omega) hb hC (fun k hk => by rw [h0 k hk]; rfl) (fun w hw => absurd hw (Nat.not_lt_zero _))
    refine ⟨Y, ?_, y2, y3, y4⟩
    rw [F_Ty_measureWords_2, if_pos (by decide)]
    exact y1
  | succ d ih =>
    intro k N X hk hN hb hC h0
    obtain ⟨N, rfl⟩ : ∃ z, N = z + 1 := ⟨N - 1, by omega⟩
    obtain ⟨Y, y1, y2, y3, y4⟩ := ih (k + 1) N (pm_up X 51 k 0) (by omega) (by omega) (hb.put (by decide) (by decide)) (hC.on (S := fun c _ => c = 51) (On.up (On.refl _) rfl) (by omega) (fun v => by omega) (fun v => by omega) (fun v => by omega)) (by
      intro j hj
      rw [ur]
      by_cases q : j = k
      · rw [if_pos ⟨rfl, q⟩]
      · rw [if_neg (fun z => q z.2)]
        exact h0 j (by omega))
    refine ⟨Y, ?_, On.trans (On.up (On.refl _) (Or.inl rfl)) y2, y3, y4⟩
    rw [F_Ty_measureWords_2, show (26 : Int32) = nI 26 from rfl, if_neg (by rw [nI_leI (by omega) (by omega)]; omega), vqT (show k < 26 by omega) (by omega), nI_clamp (by omega), nI_io1, nI_add]
    exact y1
theorem c_measure {X : pm_II} (hu : 40 ≤ u) (hT : TP b W fr ln p) (hn : n = p + 1) (h10 : b p = 10) (hw : ∀ k, wd k ≤ 20) (hb : Tb b n X) (hC : CW W fr ln wd X) : ∃ Y, F_Ty_measureWords u X J = some ((), Y, J) ∧ On kM X Y ∧ (∀ k, k < 26 → Y 51 k = nI (cl b n k)) ∧ ∀ w, w < W → Y 54 w = nI (wsm b wd (fr w) (ln w)) := mw2 hu hT hn h10 hw 26 0 u X (by omega) (by omega) hb hC (fun j hj => absurd hj (Nat.not_lt_zero _))
/-- enough sorts -/
def enbn (n : Nat) (q : Nat → Nat) (S : Nat → Int32) : Bool := @decide (∀ k, k < n → nI (q k) ≤ S k) (Nat.decidableBallLT n (fun k _ => nI (q k) ≤ S k))
def enb (q : Nat → Nat) (S : Nat → Int32) : Bool := enbn 26 q S
theorem enb_t {q : Nat → Nat} {S : Nat → Int32} (h : ∀ k, k < 26 → nI (q k) ≤ S k) : enb q S = true := by
  unfold enb enbn
  exact decide_eq_true h
theorem enb_f {q : Nat → Nat} {S : Nat → Int32} (h : ¬ ∀ k, k < 26 → nI (q k) ≤ S k) : enb q S = false := by
  unfold enb enbn
  exact decide_eq_false h
theorem c_enough2 {X : pm_II} {q : Nat → Nat} (h : ∀ k, k < 26 → X 51 k = nI (q k)) : ∀ (d k N : Nat), k + d = 26 → d < N → (∀ j, j < k → nI (q j) ≤ X 49 j) → F_Ty_enoughSorts_2 u N (nI k) X J = some (b2i (enb q (X 49)), X, J) := by
  intro d
  induction d with
  | zero =>
    intro k N hk hN h0
    obtain ⟨N, rfl⟩ : ∃ z, N = z + 1 := ⟨N - 1, by omega⟩
    obtain rfl : k = 26 := by omega
    rw [F_Ty_enoughSorts_2, if_pos (by decide)]
    have : enb q (X 49) = true := enb_t h0
    rw [this]
    rfl
  | succ d ih =>
    intro k N hk hN h0
    obtain ⟨N, rfl⟩ : ∃ z, N = z + 1 := ⟨N - 1, by omega⟩
    rw [F_Ty_enoughSorts_2, show (26 : Int32) = nI 26 from rfl, if_neg (by rw [nI_leI (by omega) (by omega)]; omega), vqT (show k < 26 by omega) (by omega), nI_clamp (by omega), h k (by omega), cond_true, cond_true]
    by_cases c : nI (q k) ≤ X 49 k
    · rw [if_pos c, nI_io1, nI_add]
      exact ih (k + 1) N (by omega) (by omega) (fun j hj => by
        by_cases e : j = k
        · subst e; exact c
        · exact h0 j (by omega))
    · rw [if_neg c]
      have : enb q (X 49) = false := enb_f (fun z => c (z k (by omega)))
      rw [this]
      rfl
theorem c_enough {X : pm_II} {q : Nat → Nat} (hu : 40 ≤ u) (h : ∀ k, k < 26 → X 51 k = nI (q k)) : F_Ty_enoughSorts u X J = some (b2i (enb q (X 49)), X, J) := c_enough2 h 26 0 u (by omega) (by omega) (fun j hj => absurd hj (Nat.not_lt_zero _))
/-- every word fits -/
def fit (ww : Nat → Nat) (m W : Nat) : Bool := decide (∀ v, v < W → ww v ≤ m)
theorem c_fit2 {X : pm_II} {ww : Nat → Nat} {m : Nat} (hW : W ≤ 12) (h8 : X 48 8 = nI W) (hm : m ≤ 200) (hw : ∀ v, ww v ≤ 1000) (h : ∀ v, v < W → X 54 v = nI (ww v)) : ∀ (d v N : Nat), v + d = W → d < N → (∀ j, j < v → ww j ≤ m) → F_Ty_wordsFit_2 u N (nI m) (nI v) X J = some (b2i (fit ww m W), X, J) := by
  intro d
  induction d with
  | zero =>
    intro v N hv hN h0
    obtain ⟨N, rfl⟩ : ∃ z, N = z + 1 := ⟨N - 1, by omega⟩
    obtain rfl : v = W := by omega
    rw [F_Ty_wordsFit_2, h8, if_pos (by rw [nI_leI (by omega) (by omega)]; omega)]
    have : fit ww m v = true := by unfold fit; exact decide_eq_true h0
    rw [this]
    rfl
  | succ d ih =>
    intro v N hv hN h0
    obtain ⟨N, rfl⟩ : ∃ z, N = z + 1 := ⟨N - 1, by omega⟩
    have hwv := hw v
    rw [F_Ty_wordsFit_2, h8, if_neg (by rw [nI_leI (by omega) (by omega)]; omega), show (12 : Int32) = nI 12 from rfl, if_neg (by rw [nI_leI (by omega) (by omega)]; omega), vqT (show v < 12 by omega) (by omega), nI_clamp (by omega), h v (by omega), cond_true]
    by_cases c : ww v ≤ m
    · rw [if_pos (by rw [nI_leI (by omega) (by omega)]; exact c), nI_io1, nI_add]
      exact ih (v + 1) N (by omega) (by omega) (fun j hj => by
        by_cases e : j = v
        · subst e; exact c
        · exact h0 j (by omega))
    · rw [if_neg (by rw [nI_leI (by omega) (by omega)]; exact c)]
      have : fit ww m W = false := by unfold fit; exact decide_eq_false (fun z => c (z v (by omega)))
      rw [this]
      rfl
theorem c_fit {X : pm_II} {ww : Nat → Nat} {m : Nat} (hu : 40 ≤ u) (hW : W ≤ 12) (h8 : X 48 8 = nI W) (hm : m ≤ 200) (hw : ∀ v, ww v ≤ 1000) (h : ∀ v, v < W → X 54 v = nI (ww v)) : F_Ty_wordsFit u (nI m) X J = some (b2i (fit ww m W), X, J) := c_fit2 hW h8 hm hw h W 0 u (by omega) (by omega) (fun j hj => absurd hj (Nat.not_lt_zero _))
end Measure
