/-! ===== type: the state; sorts, left, line, strip ===== -/
def zc (x : Nat → Nat) : Nat → Nat
  | 0 => 0
  | k + 1 => zc x k + (if x k = 0 then 1 else 0)
theorem zc_le (x : Nat → Nat) : ∀ k, zc x k ≤ k
  | 0 => Nat.le_refl _
  | k + 1 => by
    have := zc_le x k
    unfold zc
    split <;> omega
/-- a line as the class has it (A: its fields, B: its marks) and as the model has it -/
def LR (A B th sp : Nat → Int32) (tm wm lw : Int32) : Prop := ∃ (t w : Nat) (x s : Nat → Nat), (1 ≤ w ∧ w ≤ 12 ∧ w ≤ t ∧ t ≤ 155) ∧ (tm = nI t ∧ wm = nI w ∧ A 1 = nI t ∧ A 2 = lw ∧ A 3 = nI w ∧ A 4 = nI (t + 1 - w)) ∧ (A 5 = (if w = 1 then 0 else nI (s 0)) ∧ A 6 = (if w = 1 then 0 else nI (s (w - 2)))) ∧ (∀ q, q + 1 < w → sp q = nI (s q) ∧ s q ≤ 1000) ∧ ∀ k, k < t → x k ≤ 26 ∧ th k = nI (x k) ∧ (x k = 0 → zc x k + 1 < w ∧ B k = -(nI (s (zc x k)))) ∧ (¬ x k = 0 → B k = nI (x k))
theorem LR.c {A B th sp A2 B2 th2 sp2 : Nat → Int32} {tm wm lw tm2 wm2 lw2 : Int32} (h : LR A B th sp tm wm lw) (hA : ∀ k, A2 k = A k) (hB : ∀ k, B2 k = B k) (ht : ∀ k, k < 160 → th2 k = th k) (hs : ∀ k, k < 12 → sp2 k = sp k) (h1 : tm2 = tm) (h2 : wm2 = wm) (h3 : lw2 = lw) : LR A2 B2 th2 sp2 tm2 wm2 lw2 := by
  obtain ⟨t, w, x, s, ⟨a1, a2, a3, a4⟩, ⟨b1, b2, b3, b4, b5, b6⟩, ⟨c1, c2⟩, d, e⟩ := h
  subst h1 h2 h3
  refine ⟨t, w, x, s, ⟨a1, a2, a3, a4⟩, ⟨b1, b2, by rw [hA]; exact b3, by rw [hA]; exact b4, by rw [hA]; exact b5, by rw [hA]; exact b6⟩, ⟨by rw [hA]; exact c1, by rw [hA]; exact c2⟩, fun q hq => ?_, fun k hk => ?_⟩
  · rw [hs q (by omega)]; exact d q hq
  · obtain ⟨e1, e2, e3, e4⟩ := e k hk
    refine ⟨e1, by rw [ht k (by omega)]; exact e2, fun z => ?_, fun z => ?_⟩
    · rw [hB]; exact e3 z
    · rw [hB]; exact e4 z
def L5 (ga : Nat → Nat) (I : pm_II) (l : Nat) : Prop := LR (I (ga l)) (I (ga l + 1)) (fun k => I 149 (160 * l + k)) (fun q => I 153 (12 * l + q)) (I 150 l) (I 151 l) (I 152 l)
def G5 (ga : Nat → Nat) : Prop := (∀ l, l < 16 → oT (ga l)) ∧ ∀ l m, l < 16 → m < 16 → ga l = ga m → l = m
def S5 (I : pm_II) : Prop := ∀ k, k < 26 → I 49 k = I 146 (k + 1) ∧ I 50 k = I 147 (k + 1) ∧ ∃ w, w ≤ 20 ∧ I 50 k = nI w
def P5 (ga : Nat → Nat) (I : pm_II) : Prop := G5 ga ∧ S5 I ∧ ∃ g, g ≤ 16 ∧ I 48 9 = nI g ∧ I 120 56 = nI g ∧ ∀ l, l < g → L5 ga I l
def k5 (c k : Nat) : Prop := (48 ≤ c ∧ c ≤ 88) ∨ (146 ≤ c ∧ c ≤ 153) ∨ (c = 120 ∧ 48 ≤ k ∧ k ≤ 56)
theorem own120_5 : ∀ k, k < 57 → 48 ≤ k → own 120 k = 5 := by decide +kernel
theorem k5_own {c k : Nat} (h : k5 c k) : own c k = 0 ∨ own c k = 5 := by
  rcases h with h | h | ⟨rfl, h1, h2⟩
  · exact Or.inr (own5 (by omega))
  · exact Or.inr (own5 (by omega))
  · exact Or.inr (own120_5 k (by omega) h1)
theorem Ptape_k5 {I I2 : pm_II} (o : On k5 I I2) (h : Ptape I) : Ptape I2 := Ptape.on o (by unfold k5; omega) (by unfold k5; omega) (fun j => by unfold k5; omega) (fun j => by unfold k5; omega) h
theorem oT_r {a : Nat} (h : oT a) : 57 ≤ a ∧ a + 1 ≤ 88 := by
  obtain ⟨j, hj, rfl⟩ := h
  omega
def St5 (ga : Nat → Nat) (fc fm : pm_II → pm_JJ → Option (Int32 × pm_II × pm_JJ)) (I : pm_II) (J : pm_JJ) : Prop := ∃ v I1 I2, fc I J = some (v, I1, J) ∧ fm I1 J = some (v, I2, J) ∧ P5 ga I2 ∧ Fr 5 I I2 ∧ (Ptape I → Ptape I2)
section Type1
variable {u : Nat} {I : pm_II} {J : pm_JJ} {ga : Nat → Nat} {pa pb : Nat}
theorem st5_same {fc fm : pm_II → pm_JJ → Option (Int32 × pm_II × pm_JJ)} (h : P5 ga I) {v : Int32} (h1 : fc I J = some (v, I, J)) (h2 : fm I J = some (v, I, J)) : St5 ga fc fm I J := ⟨v, I, I, h1, h2, h, Fr.refl _ _, id⟩
theorem st_sorts {x y z : Int32} (h : P5 ga I) : St5 ga (F_Ty_stockUp u x y z) (F_Mo_sorts u x y z) I J := by
  have e1 : F_Ty_stockUp u x y z I J = cond (rgb x 1 26) (cond (rgb y 0 99) (cond (rgb z 1 20) (cond (vq (x - (1 : Int32)) 26) (cond (vq (x - (1 : Int32)) 26) (some ((1 : Int32), (pm_up (pm_up I 49 (((x - (1 : Int32)) : Int32).toNatClampNeg) y) 50 (((x - (1 : Int32)) : Int32).toNatClampNeg) z), J)) none) none) (some (-1, I, J))) (some (-1, I, J))) (some (-1, I, J)) := by
    unfold F_Ty_stockUp
    rw [rgb_if1, rgb_if1, rgb_if2]
  have e2 : ∀ I1, F_Mo_sorts u x y z I1 J = cond (rgb x 1 26) (cond (rgb y 0 99) (cond (rgb z 1 20) (cond (vq x 27) (cond (vq x 27) (some ((1 : Int32), (pm_up (pm_up I1 146 ((x : Int32).toNatClampNeg) y) 147 ((x : Int32).toNatClampNeg) z), J)) none) none) (some (-1, I1, J))) (some (-1, I1, J))) (some (-1, I1, J)) := by
    intro I1
    unfold F_Mo_sorts
    rw [m_isB, bd_s, b2i_if0, m_isB, bd_s, b2i_if0, m_isB, bd_s, b2i_ifn]
  cases hx : rgb x 1 26 with
  | false =>
    rw [hx] at e1
    exact st5_same h e1 (by rw [e2 I, hx]; rfl)
  | true =>
    cases hy : rgb y 0 99 with
    | false =>
      rw [hx, hy] at e1
      exact st5_same h e1 (by rw [e2 I, hx, hy]; rfl)
    | true =>
      cases hz : rgb z 1 20 with
      | false =>
        rw [hx, hy, hz] at e1
        exact st5_same h e1 (by rw [e2 I, hx, hy, hz]; rfl)
      | true =>
        obtain ⟨a, ha1, ha2, rfl⟩ := rgb_n (lo := 1) (hi := 26) (by omega) (by omega) hx
        obtain ⟨w, hw1, hw2, rfl⟩ := rgb_n (lo := 1) (hi := 20) (by omega) (by omega) hz
        obtain ⟨hg, hs, g, g1, g2, g3, g4⟩ := h
        have ea : nI a - (1 : Int32) = nI (a - 1) := by rw [nl_1, pk_sub ha1]
        rw [hx, hy, hz, ea, vqT (show a - 1 < 26 by omega) (by omega), nI_clamp (by omega)] at e1
        have o : On k5 I (pm_up (pm_up (pm_up (pm_up I 49 (a - 1) y) 50 (a - 1) (nI w)) 146 a y) 147 a (nI w)) := by
          refine On.up (On.up (On.up (On.up (On.refl _) ?_) ?_) ?_) ?_ <;> (unfold k5; omega)
        refine ⟨1, _, pm_up (pm_up (pm_up (pm_up I 49 (a - 1) y) 50 (a - 1) (nI w)) 146 a y) 147 a (nI w), e1, ?_, ⟨hg, fun k hk => ?_, g, g1, g2, g3, fun l hl => ?_⟩, o.fr (fun c k z => k5_own z), Ptape_k5 o⟩
        · rw [e2, hx, hy, hz, vqT (show a < 27 by omega) (by omega), nI_clamp (by omega)]
          rfl
        · obtain ⟨s1, s2, v, s3, s4⟩ := hs k hk
          have ek : (k + 1 = a) ↔ (k = a - 1) := by omega
          simp only [ur]
          by_cases q : k = a - 1
          · simp [q, show a - 1 + 1 = a by omega]
            exact ⟨w, by omega, rfl⟩
          · simp [q, ek]
            exact ⟨s1, s2, v, s3, s4⟩
        · have hr := oT_r (hg.1 l (by omega))
          have oo : ∀ c k, c ≠ 49 → c ≠ 50 → c ≠ 146 → c ≠ 147 → (pm_up (pm_up (pm_up (pm_up I 49 (a - 1) y) 50 (a - 1) (nI w)) 146 a y) 147 a (nI w)) c k = I c k := fun c k a1 a2 a3 a4 => by
            rw [ur, if_neg (fun z => a4 z.1), ur, if_neg (fun z => a3 z.1), ur, if_neg (fun z => a2 z.1), ur, if_neg (fun z => a1 z.1)]
          exact (g4 l hl).c (fun k => oo _ _ (by omega) (by omega) (by omega) (by omega)) (fun k => oo _ _ (by omega) (by omega) (by omega) (by omega)) (fun k _ => oo _ _ (by omega) (by omega) (by omega) (by omega)) (fun k _ => oo _ _ (by omega) (by omega) (by omega) (by omega)) (oo _ _ (by omega) (by omega) (by omega) (by omega)) (oo _ _ (by omega) (by omega) (by omega) (by omega)) (oo _ _ (by omega) (by omega) (by omega) (by omega))
theorem st_left {x : Int32} (h : P5 ga I) : ∃ v, F_Ty_stockOf u x I J = some (v, I, J) ∧ F_Mo_left u x I J = some (v, I, J) := by
  unfold F_Ty_stockOf F_Mo_left
  rw [rgb_if2, m_isB, bd_s, b2i_if0]
  cases hx : rgb x 1 26 with
  | false => exact ⟨-1, rfl, rfl⟩
  | true =>
    obtain ⟨a, ha1, ha2, rfl⟩ := rgb_n (lo := 1) (hi := 26) (by omega) (by omega) hx
    have ea : nI a - (1 : Int32) = nI (a - 1) := by rw [nl_1, pk_sub ha1]
    rw [ea, vqT (show a - 1 < 26 by omega) (by omega), vqT (show a < 27 by omega) (by omega), nI_clamp (by omega), nI_clamp (by omega)]
    refine ⟨I 49 (a - 1), rfl, ?_⟩
    have := (h.2.1 (a - 1) (by omega)).1
    rw [this, show a - 1 + 1 = a by omega]
    rfl
theorem ty_stands {x : Int32} {g : Nat} (hg : g ≤ 16) (h : I 48 9 = nI g) : F_Ty_stands u x I J = some (b2i (rng x g), I, J) := by
  unfold F_Ty_stands rng
  rw [h]
  by_cases c : x < 0
  · rw [if_pos c]
    have : ¬ (0 ≤ x ∧ x < nI g) := fun z => absurd c (Int32.not_lt.mpr z.1)
    simp [this, b2i]
  · rw [if_neg c]
    obtain ⟨a, ha, rfl⟩ := nI_of c
    simp (disch := omega) only [nl_16, nI_leI, nI_ltI]
    have c0 : (0 : Int32) ≤ nI a := Int32.not_lt.mp c
    by_cases d : g ≤ a
    · rw [if_pos d]
      have : ¬ ((0 : Int32) ≤ nI a ∧ a < g) := fun z => by omega
      simp [this, b2i]
    · rw [if_neg d, if_neg (by omega)]
      have : ((0 : Int32) ≤ nI a ∧ a < g) := ⟨c0, by omega⟩
      simp [this, b2i]
theorem m_isLine {x : Int32} {g : Nat} (hg : g ≤ 16) (h : I 120 56 = nI g) : F_Mo_isLine u x I J = some (b2i (rng x g), I, J) := by
  unfold F_Mo_isLine
  rw [h, m_isB, bd_s, rgb_rng (by omega), if_pos b2i_01]
theorem st_line {x y : Int32} (h : P5 ga I) : ∃ v, F_Ty_tellLine u pa pb ga x y I J = some (v, I, J) ∧ F_Mo_line u x y I J = some (v, I, J) := by
  obtain ⟨hg, hs, g, g1, g2, g3, g4⟩ := h
  unfold F_Ty_tellLine F_Mo_line
  rw [ty_stands g1 g2, bd_s, b2i_if0, m_isLine g1 g3, bd_s, b2i_ifn]
  cases hx : rng x g with
  | false => exact ⟨-1, rfl, rfl⟩
  | true =>
    obtain ⟨l, hl, rfl⟩ := rng_n (by omega) hx
    obtain ⟨t, w, xx, s, ⟨a1, a2, a3, a4⟩, ⟨b1, b2, b3, b4, b5, b6⟩, ⟨c1, c2⟩, d, e⟩ := g4 l hl
    rw [cond_true, cond_true, vqT (show l < 16 by omega) (by omega), vqT (show l < 17 by omega) (by omega), nI_clamp (by omega), cond_true]
    unfold F_Tl_tell
    simp only [cond_true]
    by_cases y0 : y = nI 0
    · rw [if_pos y0, if_pos y0, bd_s]
      exact ⟨_, rfl, by rw [b4]⟩
    · rw [if_neg y0, if_neg y0]
      by_cases y1 : y = nI 1
      · rw [if_pos y1, if_pos y1, bd_s]
        exact ⟨_, rfl, by rw [b5, b2]⟩
      · rw [if_neg y1, if_neg y1]
        by_cases y2 : y = nI 2
        · rw [if_pos y2, if_pos y2, bd_s]
          refine ⟨_, rfl, ?_⟩
          rw [b6, b1, b2, pk_sub a3, nI_1, show t - w + 1 = t + 1 - w by omega]
        · rw [if_neg y2, if_neg y2]
          by_cases y3 : y = nI 3
          · rw [if_pos y3, if_pos y3, bd_s]
            refine ⟨_, rfl, ?_⟩
            rw [b2, c1]
            simp (disch := omega) only [nl_1, nI_leI]
            by_cases z : w = 1
            · rw [if_pos (by omega), if_pos z]
            · rw [if_neg (by omega), if_neg z, show (12 : Int32) = nI 12 from rfl, pk_mul, vqT (show 12 * l < 204 by omega) (by omega), nI_clamp (by omega)]
              have := (d 0 (by omega)).1
              rw [← this]
              rfl
          · rw [if_neg y3, if_neg y3]
            by_cases y4 : y = nI 4
            · rw [if_pos y4, if_pos y4, bd_s]
              refine ⟨_, rfl, ?_⟩
              rw [b2, c2]
              simp (disch := omega) only [nl_1, nI_leI]
              by_cases z : w = 1
              · rw [if_pos (by omega), if_pos z]
              · rw [if_neg (by omega), if_neg z, show (12 : Int32) = nI 12 from rfl, pk_mul, nI_add, show (2 : Int32) = nI 2 from rfl, pk_sub (by omega), vqT (show 12 * l + w - 2 < 204 by omega) (by omega), nI_clamp (by omega)]
                have := (d (w - 2) (by omega)).1
                rw [← this, show 12 * l + w - 2 = 12 * l + (w - 2) by omega]
                rfl
            · rw [if_neg y4, if_neg y4, bd_s]
              exact ⟨_, rfl, rfl⟩
theorem m_strip65 {l t : Nat} {x s : Nat → Nat} (hl : l < 16) (ht : t ≤ 155) (hx : ∀ k, k < t → I 149 (160 * l + k) = nI (x k) ∧ x k ≤ 26) {k : Nat} (hk : k < t) (hz : zc x k < 11) (hs : I 153 (12 * l + zc x k) = nI (s (zc x k))) (hs2 : s (zc x k) ≤ 1000) : ∀ (d j N : Nat), j + d = k → d < N → F_Mo_strip_65 u N (nI l) (nI k) (nI (zc x j)) (nI j) I J = some (nI (min 40 (27 + s (zc x k))), I, J) := by
  intro d
  induction d with
  | zero =>
    intro j N hj hN
    obtain ⟨N, rfl⟩ : ∃ z, N = z + 1 := ⟨N - 1, by omega⟩
    obtain rfl : j = k := by omega
    rw [F_Mo_strip_65, if_pos (by rw [nI_leI (by omega) (by omega)]; omega), show (12 : Int32) = nI 12 from rfl, pk_mul, nI_add, vqT (show 12 * l + zc x j < 204 by omega) (by omega), nI_clamp (by omega), hs, cond_true, show (27 : Int32) = nI 27 from rfl, nI_add, show (40 : Int32) = nI 40 from rfl, j_minN (by omega) (by omega), bd_s]
  | succ d ih =>
    intro j N hj hN
    obtain ⟨N, rfl⟩ : ∃ z, N = z + 1 := ⟨N - 1, by omega⟩
    obtain ⟨h1, h2⟩ := hx j (by omega)
    have hzj := zc_le x j
    have := ih (j + 1) N (by omega) (by omega)
    rw [F_Mo_strip_65, if_neg (by rw [nI_leI (by omega) (by omega)]; omega), show (160 : Int32) = nI 160 from rfl, pk_mul, nI_add, vqT (show 160 * l + j < 2624 by omega) (by omega), nI_clamp (by omega), h1, cond_true, nI_io1, nI_add]
    simp (disch := omega) only [i0_iff]
    by_cases z : x j = 0
    · rw [if_neg (by omega), nl_1, nI_add]
      have e : zc x (j + 1) = zc x j + 1 := by rw [zc, if_pos z]
      rw [e] at this
      exact this
    · rw [if_pos z, show (0 : Int32) = nI 0 from rfl, nI_add]
      have e : zc x (j + 1) = zc x j + 0 := by rw [zc, if_neg z]
      rw [e] at this
      exact this
theorem neg_le0 {v : Nat} (hv : v < 2 ^ 30) : -(nI v) ≤ 0 := by
  rw [Int32.le_iff_toInt_le, Int32.toInt_neg, nI_toInt (by omega), bm32 (by omega) (by omega)]
  have : ((0 : Int32)).toInt = 0 := rfl
  omega
theorem neg_30 {v : Nat} (hv : v < 2 ^ 20) : (30 : Int32) - (-(nI v)) - 3 = nI (27 + v) := by
  have : (30 : Int32) = nI 30 := rfl
  rw [Int32.sub_eq_add_neg (30 : Int32), Int32.neg_neg, this, nI_add, show (3 : Int32) = nI 3 from rfl, pk_sub (by omega), show 30 + v - 3 = 27 + v by omega]
theorem st_strip {x y : Int32} (hu : 200 ≤ u) (h : P5 ga I) : ∃ v, F_Ty_tellStrip u pa pb ga x y I J = some (v, I, J) ∧ F_Mo_strip u x y I J = some (v, I, J) := by
  obtain ⟨hg, hs, g, g1, g2, g3, g4⟩ := h
  unfold F_Ty_tellStrip F_Mo_strip
  rw [ty_stands g1 g2, bd_s, b2i_if0, m_isLine g1 g3, bd_s, b2i_if0]
  cases hx : rng x g with
  | false => exact ⟨-1, rfl, rfl⟩
  | true =>
    obtain ⟨l, hl, rfl⟩ := rng_n (by omega) hx
    obtain ⟨t, w, xx, s, ⟨a1, a2, a3, a4⟩, ⟨b1, b2, b3, b4, b5, b6⟩, ⟨c1, c2⟩, d, e⟩ := g4 l hl
    rw [cond_true, cond_true, vqT (show l < 16 by omega) (by omega), vqT (show l < 17 by omega) (by omega), nI_clamp (by omega), cond_true, cond_true]
    unfold F_Tl_backwards
    rw [b3, b1, rng_if3, m_isB, bd_s, b2i_ifn, rgb_rng (by omega)]
    show ∃ v, bd (cond (rng y t) _ _) _ = _ ∧ _
    cases hy : rng y t with
    | false => exact ⟨-1, rfl, rfl⟩
    | true =>
      obtain ⟨i, hi, rfl⟩ := rng_n (by omega) hy
      have e1 : nI t - 1 - nI i = nI (t - 1 - i) := by rw [nl_1, pk_sub (by omega), pk_sub (by omega)]
      rw [cond_true, cond_true, e1, vqT (show t - 1 - i < 155 by omega) (by omega), b1, e1, show (160 : Int32) = nI 160 from rfl, pk_mul, nI_add, vqT (show 160 * l + (t - 1 - i) < 2624 by omega) (by omega), nI_clamp (by omega), nI_clamp (by omega), cond_true, cond_true, cond_true]
      obtain ⟨q1, q2, q3, q4⟩ := e (t - 1 - i) (by omega)
      have q2' : I 149 (160 * l + (t - 1 - i)) = nI (xx (t - 1 - i)) := q2
      rw [q2']
      by_cases z : xx (t - 1 - i) = 0
      · obtain ⟨z1, z2⟩ := q3 z
        obtain ⟨d1, d2⟩ := d (zc xx (t - 1 - i)) (by omega)
        have hc := m_strip65 (u := u) (J := J) (s := s) (by omega) a4 (fun k hk => ⟨(e k hk).2.1, (e k hk).1⟩) (k := t - 1 - i) (by omega) (by omega) d1 d2 (t - 1 - i) 0 u (by omega) (by omega)
        rw [z2, if_pos (neg_le0 (by omega)), neg_30 (by omega), show (40 : Int32) = nI 40 from rfl, j_minN (by omega) (by omega), bd_s, if_pos (by rw [z]; decide)]
        exact ⟨_, rfl, hc⟩
      · have z2 := q4 z
        have hne : ¬ nI (xx (t - 1 - i)) ≤ 0 := by rw [← nI_0, nI_leI (by omega) (by omega)]; omega
        rw [z2, if_neg hne, if_neg hne]
        exact ⟨_, rfl, rfl⟩
end Type1
