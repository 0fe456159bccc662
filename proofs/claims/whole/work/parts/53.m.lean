/-! ===== plates: a point ===== -/
def P3 (I : pm_II) : Prop := (∀ i, i < 2048 → I 37 i = I 136 i) ∧ ∀ j, j < 16 → I 138 j = pm_con 1 j
def ink (T : Nat → Int32) (pg : Nat) (dn : Bool) (x y : Nat) : Bool := decide (pg < 32) && !decide (T (pg * 64 + cond dn (63 - (y * 8 + x)) (y * 8 + x)) ≤ pm_con 1 (y % 4 * 4 + x % 4))
def colf (C d z : Nat) : Nat := if d = 1 then C - 1 - z else z
theorem colf_lt {C d z : Nat} (h : z < C) : colf C d z < C := by
  unfold colf; split <;> omega
theorem con_pos : ∀ j : Nat, j < 16 → (0 : Int32) ≤ pm_con 1 j := by decide
section Pl
variable {u : Nat} {I : pm_II} {J : pm_JJ} {R C s wy cal : Nat} {lf sk : Nat → Nat} {tn tb : Nat → Bool}
theorem c_inked {pg x y : Nat} {dn : Bool} (hp : pg < 2 ^ 20) (hx : x < 8) (hy : y < 8) : F_Pl_inked u (nI pg) (b2i dn) (nI x) (nI y) I J = some (b2i (ink (I 37) pg dn x y), I, J) := by
  unfold F_Pl_inked ink
  have a1 : ¬ nI pg < 0 := nI_pos (by omega)
  have a2 : ¬ nI x < 0 := nI_pos (by omega)
  have a3 : ¬ nI y < 0 := nI_pos (by omega)
  have a4 : ¬ nI 8 ≤ nI x := by rw [nI_leI (by omega) (by omega)]; omega
  have a5 : nI y < nI 8 := by rw [nI_ltI (by omega) (by omega)]; omega
  rw [nl_8, nl_32, if_neg a1]
  by_cases c : pg < 32
  · rw [if_neg (by rw [nI_leI (by omega) (by omega)]; omega), if_neg a2, if_neg a4, if_neg a3, if_pos a5, decide_eq_true c, b2i_if0]
    unfold F_Pl_inked_57
    have hm : y % 4 * 4 + x % 4 < 16 := by omega
    rw [nl_4, dvI (a := y) (b := 4) (by omega) (by omega) (by omega), rmI (by omega) (by omega) (by omega), dvI (a := x) (b := 4) (by omega) (by omega) (by omega), rmI (by omega) (by omega) (by omega)]
    simp only [nl_64, nl_63, pk_mul, nI_add]
    rw [pk_sub (show y * 8 + x ≤ 63 by omega)]
    simp only [nI_add]
    rw [vqT hm (by omega), nI_clamp (show y % 4 * 4 + x % 4 < 2 ^ 31 by omega), vqT (show pg * 64 + (y * 8 + x) < 2048 by omega) (by omega), vqT (show pg * 64 + (63 - (y * 8 + x)) < 2048 by omega) (by omega), nI_clamp (show pg * 64 + (y * 8 + x) < 2 ^ 31 by omega), nI_clamp (show pg * 64 + (63 - (y * 8 + x)) < 2 ^ 31 by omega)]
    cases dn
    · simp only [cond_true, cond_false, Bool.true_and]
      by_cases g : I 37 (pg * 64 + (y * 8 + x)) ≤ pm_con 1 (y % 4 * 4 + x % 4)
      · rw [if_pos g, decide_eq_true g]; rfl
      · rw [if_neg g, decide_eq_false g]; rfl
    · simp only [cond_true, cond_false, Bool.true_and]
      by_cases g : I 37 (pg * 64 + (63 - (y * 8 + x))) ≤ pm_con 1 (y % 4 * 4 + x % 4)
      · rw [if_pos g, decide_eq_true g]; rfl
      · rw [if_neg g, decide_eq_false g]; rfl
  · rw [if_pos (by rw [nI_leI (by omega) (by omega)]; omega), decide_eq_false c]; rfl
theorem pgo_lt {t d p : Nat} (h : Q2 R C s wy cal lf sk tn tb I) (ht : t < s) (hp : p < R * C) : pgo R C s wy lf tn t d p < 2000 := by
  have b := h.1
  have h64 := rc_le b.2.1 b.2.2.2.1
  have hA2 : s * (R * C) ≤ 8 * 64 := Nat.mul_le_mul b.2.2.2.2.2.1 h64
  have := (plc_aux (wy := wy) b.2.1 b.2.2.2.1 b.2.2.2.2.2.1 ht (h.2.2.2.1 _ hp).2.2.2.1).2.2.2.2.2
  unfold pgo
  split <;> omega
theorem c_col {d z : Nat} (h : Q2 R C s wy cal lf sk tn tb I) (hd : d ≤ 1) (hz : z < C) : F_Pl_panelColumn u (nI d) (nI z) I J = some (nI (colf C d z), I, J) := by
  have b := h.1
  unfold F_Pl_panelColumn F_Fo_columns colf
  match d, hd with
  | 0, _ => rfl
  | 1, _ =>
    rw [if_neg (by decide), bd_s, h.2.1.2.1, nl_1, pk_sub (by omega), pk_sub (by omega)]; rfl
theorem c_upside {r c : Nat} (h : Q2 R C s wy cal lf sk tn tb I) (hr : r < R) (hc : c < C) : F_Fo_isUpsideDown u (nI r) (nI c) I J = some (b2i (tb (r * C + c)), I, J) := by
  have b := h.1
  have h64 := rc_le b.2.1 b.2.2.2.1
  have hp := rc_lt hr hc
  obtain ⟨_, _, g3, _, _⟩ := h.2.2.2.1 _ hp
  unfold F_Fo_isUpsideDown
  rw [c_isPanel h, bd_s, b2i_if0, rng_1 hr (by omega), rng_1 hc (by omega), h.2.1.2.1, pk_mul, nI_add, vqT (show r * C + c < 64 by omega) (by omega), nI_clamp (by omega), g3]
  cases tb (r * C + c) <;> rfl
theorem m_pointAt {t d X Y : Nat} (h : Q2 R C s wy cal lf sk tn tb I) (h3 : P3 I) (ht : t < s) (hd : d ≤ 1) (hX : X < 8 * C) (hY : Y < 8 * R) : F_Mo_pointAt u (nI t) (nI d) (nI X) (nI Y) I J = some (b2i (ink (I 37) (pgo R C s wy lf tn t d (Y / 8 * C + colf C d (X / 8))) (tb (Y / 8 * C + colf C d (X / 8))) (X % 8) (Y % 8)), I, J) := by
  have b := h.1
  have h64 := rc_le b.2.1 b.2.2.2.1
  have hx8 : X / 8 < C := by omega
  have hy8 : Y / 8 < R := by omega
  have hcl := colf_lt (d := d) hx8
  have hp := rc_lt hy8 hcl
  have e29 : F_Mo_pointAt u (nI t) (nI d) (nI X) (nI Y) I J = F_Mo_pointAt_29 u (nI t) (nI d) (nI X) (nI Y) (nI (Y / 8)) (nI (colf C d (X / 8))) I J := by
    unfold F_Mo_pointAt
    rw [h.2.2.1.2.1, nl_8, dvI (by omega) (by omega) (by omega), dvI (by omega) (by omega) (by omega)]
    unfold colf
    match d, hd with
    | 0, _ => rfl
    | 1, _ => rw [if_pos (by decide), nl_1, pk_sub (by omega), pk_sub (by omega)]; rfl
  rw [e29]
  unfold F_Mo_pointAt_29
  rw [m_pageOf h ht hd hy8 hcl, bd_s, nl_8, pk_mul, nI_add, vqT (show 8 * (Y / 8) + colf C d (X / 8) < 64 by omega) (by omega), nI_clamp (by omega), (h.2.2.2.2.2 _ _ hy8 hcl).2.2, cond_true]
  generalize hP : pgo R C s wy lf tn t d (Y / 8 * C + colf C d (X / 8)) = P
  have hPl : P < 2000 := by rw [← hP]; exact pgo_lt h ht hp
  generalize tb (Y / 8 * C + colf C d (X / 8)) = dn
  have hm : 4 * (Y % 4) + X % 4 < 16 := by omega
  have e132 : ∀ z : Int32, F_Mo_pointAt_132 u (nI X) (nI Y) z I J = some (b2i (!decide (z ≤ pm_con 1 (Y % 8 % 4 * 4 + X % 8 % 4))), I, J) := by
    intro z
    unfold F_Mo_pointAt_132
    rw [nl_4, dvI (a := Y) (b := 4) (by omega) (by omega) (by omega), rmI (by omega) (by omega) (by omega), dvI (a := X) (b := 4) (by omega) (by omega) (by omega), rmI (by omega) (by omega) (by omega), pk_mul, nI_add, vqT hm (by omega), nI_clamp (by omega), cond_true, h3.2 _ hm]
    have em : 4 * (Y % 4) + X % 4 = Y % 8 % 4 * 4 + X % 8 % 4 := by omega
    rw [em]
    by_cases g : z ≤ pm_con 1 (Y % 8 % 4 * 4 + X % 8 % 4)
    · rw [if_pos g, decide_eq_true g]; rfl
    · rw [if_neg g, decide_eq_false g]; rfl
  have e100 : ∀ dx dy : Nat, dx < 8 → dy < 8 → F_Mo_pointAt_100 u (nI X) (nI Y) (nI P) (nI dx) (nI dy) I J = some (b2i (decide (P < 32) && !decide (I 37 (P * 64 + (dy * 8 + dx)) ≤ pm_con 1 (Y % 8 % 4 * 4 + X % 8 % 4))), I, J) := by
    intro dx dy h1 h2
    unfold F_Mo_pointAt_100
    by_cases c : P < 32
    · rw [nl_32, if_neg (by rw [nI_leI (by omega) (by omega)]; omega), decide_eq_true c, nl_64, nl_8, pk_mul, pk_mul, nI_add, nI_add, vqT (show 64 * P + 8 * dy + dx < 2048 by omega) (by omega), cond_true, nI_clamp (by omega), e132, ← h3.1 _ (by omega)]
      have e1 : 64 * P + 8 * dy + dx = P * 64 + (dy * 8 + dx) := by omega
      rw [e1]; rfl
    · rw [nl_32, if_pos (by rw [nI_leI (by omega) (by omega)]; omega), decide_eq_false c, e132, decide_eq_true (con_pos _ (by omega))]; rfl
  unfold F_Mo_pointAt_77 ink
  rw [nl_8, dvI (a := X) (b := 8) (by omega) (by omega) (by omega), rmI (by omega) (by omega) (by omega), dvI (a := Y) (b := 8) (by omega) (by omega) (by omega), rmI (by omega) (by omega) (by omega), nl_7, pk_sub (show X % 8 ≤ 7 by omega), pk_sub (show Y % 8 ≤ 7 by omega), e100 _ _ (by omega) (by omega), e100 _ _ (by omega) (by omega), e100 _ _ (by omega) (by omega), e100 _ _ (by omega) (by omega), b2i_if0, b2i_if0, b2i_if0]
  cases dn
  · rfl
  · simp only [cond_true]
    have e1 : (7 - Y % 8) * 8 + (7 - X % 8) = 63 - (Y % 8 * 8 + X % 8) := by omega
    rw [e1]
theorem st_point {x y z w : Int32} (h : P2 I) (h3 : P3 I) : ∃ v, F_Pl_pointAt u x y z w I J = some (v, I, J) ∧ F_Mo_point u x y z w I J = some (v, I, J) := by
  obtain ⟨R, C, s, wy, cal, lf, sk, tn, tb, h⟩ := h
  have b := h.1
  have h64 := rc_le b.2.1 b.2.2.2.1
  unfold F_Pl_pointAt F_Mo_point F_Fo_columns F_Fo_rows
  simp only [m_isSide h, m_isB, bd_s, b2i_if0, b2i_ifn, h.2.2.1.2.1, h.2.2.1.1, h.2.1.1, h.2.1.2.1, c_hasSide h, nl_8, pk_mul]
  rw [rgb_rng (by omega), rgb_rng (by omega)]
  by_cases c1 : z < 0
  · rw [if_pos c1]
    have : rng z (8 * C) = false := by unfold rng; rw [decide_eq_false]; intro q; exact Int32.not_le.mpr c1 q.1
    rw [this]
    exact ⟨_, rfl, by cases (rng x s && rgb y 0 1) <;> rfl⟩
  · rw [if_neg c1]
    obtain ⟨X, hX, rfl⟩ := nI_of c1
    by_cases c2 : w < 0
    · rw [if_pos c2]
      have : rng w (8 * R) = false := by unfold rng; rw [decide_eq_false]; intro q; exact Int32.not_le.mpr c2 q.1
      rw [this]
      exact ⟨_, rfl, by cases (rng x s && rgb y 0 1) <;> cases rng (nI X) (8 * C) <;> rfl⟩
    · rw [if_neg c2]
      obtain ⟨Y, hY, rfl⟩ := nI_of c2
      rw [dvI (by omega) (by omega) (by omega), dvI (by omega) (by omega) (by omega)]
      have rX : rng (nI X) (8 * C) = decide (X < 8 * C) := by
        unfold rng
        congr 1
        rw [nI_ltI (by omega) (by omega)]
        exact propext ⟨fun q => q.2, fun q => ⟨Int32.not_lt.mp c1, q⟩⟩
      have rY : rng (nI Y) (8 * R) = decide (Y < 8 * R) := by
        unfold rng
        congr 1
        rw [nI_ltI (by omega) (by omega)]
        exact propext ⟨fun q => q.2, fun q => ⟨Int32.not_lt.mp c2, q⟩⟩
      rw [rX, rY]
      by_cases g1 : X < 8 * C
      · rw [if_neg (by rw [nI_leI (by omega) (by omega)]; omega), decide_eq_true g1]
        by_cases g2 : Y < 8 * R
        · rw [if_neg (by rw [nI_leI (by omega) (by omega)]; omega), decide_eq_true g2]
          cases e : (rng x s && rgb y 0 1) with
          | false => exact ⟨_, rfl, rfl⟩
          | true =>
            simp only [Bool.and_eq_true] at e
            obtain ⟨t, ht, rfl⟩ := rng_n (by omega) e.1
            obtain ⟨d, _, hd, rfl⟩ := rgb_n (lo := 0) (hi := 1) (by omega) (by omega) e.2
            have hx8 : X / 8 < C := by omega
            have hy8 : Y / 8 < R := by omega
            have hcl := colf_lt (d := d) hx8
            have hp := rc_lt hy8 hcl
            have hPl := pgo_lt (d := d) h ht hp
            simp only [cond_true]
            rw [m_pointAt h h3 ht hd g1 g2, bd_s, c_col h hd hx8, bd_s, c_pageOn h ht hd hy8 hcl, bd_s, c_upside h hy8 hcl, bd_s, rmI (by omega) (by omega) (by omega), rmI (by omega) (by omega) (by omega), c_inked (by omega) (by omega) (by omega), bd_s, b2i_if0]
            refine ⟨_, ?_, rfl⟩
            cases ink (I 37) (pgo R C s wy lf tn t d (Y / 8 * C + colf C d (X / 8))) (tb (Y / 8 * C + colf C d (X / 8))) (X % 8) (Y % 8) <;> rfl
        · rw [if_pos (by rw [nI_leI (by omega) (by omega)]; omega), decide_eq_false g2]
          exact ⟨_, rfl, by cases (rng x s && rgb y 0 1) <;> rfl⟩
      · rw [if_pos (by rw [nI_leI (by omega) (by omega)]; omega), decide_eq_false g1]
        exact ⟨_, rfl, by cases (rng x s && rgb y 0 1) <;> rfl⟩
end Pl
