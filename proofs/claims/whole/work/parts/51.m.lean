/-! ===== ranges as truths; the sheet and the book ===== -/
def rgb (x lo hi : Int32) : Bool := decide (lo ≤ x ∧ x ≤ hi)
def rng (x : Int32) (m : Nat) : Bool := decide (0 ≤ x ∧ x < nI m)
theorem m_isB {u : Nat} {I : pm_II} {J : pm_JJ} {x lo hi : Int32} : F_Mo_is u x lo hi I J = some (b2i (rgb x lo hi), I, J) := m_is
theorem b2i_if0 {α : Type} {t : Bool} {A B : α} : (if b2i t = 0 then A else B) = cond t B A := by cases t <;> rfl
theorem b2i_ifn {α : Type} {t : Bool} {A B : α} : (if ¬ b2i t = 0 then A else B) = cond t A B := by cases t <;> rfl
theorem rgb_if1 {α : Type} {x lo hi : Int32} {A B : α} : (if x < lo then A else if hi < x then A else B) = cond (rgb x lo hi) B A := by
  unfold rgb
  by_cases h1 : x < lo
  · have : ¬ lo ≤ x := Int32.not_le.mpr h1
    simp [h1, this]
  · have h1' : lo ≤ x := Int32.not_lt.mp h1
    by_cases h2 : hi < x
    · have : ¬ x ≤ hi := Int32.not_le.mpr h2
      simp [h1, h1', h2, this]
    · have : x ≤ hi := Int32.not_lt.mp h2
      simp [h1, h1', h2, this]
theorem rgb_if2 {α : Type} {x lo hi : Int32} {A B : α} : (if x < lo then A else if x ≤ hi then B else A) = cond (rgb x lo hi) B A := by
  rw [← rgb_if1]
  by_cases h1 : x < lo
  · rw [if_pos h1, if_pos h1]
  · rw [if_neg h1, if_neg h1]
    by_cases h2 : x ≤ hi
    · rw [if_pos h2, if_neg (Int32.not_lt.mpr h2)]
    · rw [if_neg h2, if_pos (Int32.not_le.mp h2)]
theorem rng_if {α : Type} {x y : Int32} {A B : α} : (if x < 0 then A else if y ≤ x then A else B) = cond (decide (0 ≤ x ∧ x < y)) B A := by
  by_cases h1 : x < 0
  · have : ¬ 0 ≤ x := Int32.not_le.mpr h1
    simp [h1, this]
  · have h1' : 0 ≤ x := Int32.not_lt.mp h1
    by_cases h2 : y ≤ x
    · have : ¬ x < y := Int32.not_lt.mpr h2
      simp [h1, h1', h2, this]
    · have : x < y := Int32.not_le.mp h2
      simp [h1, h1', h2, this]
theorem rgb_rng {x : Int32} {m : Nat} (hm : m < 2 ^ 31) : rgb x 0 (nI m - 1) = rng x m := by
  unfold rgb rng
  congr 1
  apply propext
  constructor
  · intro ⟨a, b⟩
    refine ⟨a, ?_⟩
    obtain ⟨k, hk, rfl⟩ := nI_of (Int32.not_lt.mpr a)
    rw [nI_leP (by omega) (by omega)] at b
    rw [nI_ltI (by omega) (by omega)]; exact b
  · intro ⟨a, b⟩
    refine ⟨a, ?_⟩
    obtain ⟨k, hk, rfl⟩ := nI_of (Int32.not_lt.mpr a)
    rw [nI_ltI (by omega) (by omega)] at b
    rw [nI_leP (by omega) (by omega)]; exact b
theorem rgb_t {x lo hi : Int32} (h : rgb x lo hi = true) : lo ≤ x ∧ x ≤ hi := of_decide_eq_true h
theorem rgb_n {x : Int32} {lo hi : Nat} (hl : lo < 2 ^ 31) (hh : hi < 2 ^ 31) (h : rgb x (nI lo) (nI hi) = true) : ∃ k, lo ≤ k ∧ k ≤ hi ∧ x = nI k := by
  obtain ⟨a, b⟩ := rgb_t h
  have : ¬ x < 0 := by
    apply Int32.not_lt.mpr
    exact Int32.le_trans (Int32.not_lt.mp (nI_pos hl)) a
  obtain ⟨k, hk, rfl⟩ := nI_of this
  rw [nI_leI (by omega) (by omega)] at a b
  exact ⟨k, a, b, rfl⟩
theorem rng_n {x : Int32} {m : Nat} (hm : m < 2 ^ 31) (h : rng x m = true) : ∃ k, k < m ∧ x = nI k := by
  obtain ⟨a, b⟩ := of_decide_eq_true h
  obtain ⟨k, hk, rfl⟩ := nI_of (Int32.not_lt.mpr a)
  rw [nI_ltI (by omega) (by omega)] at b
  exact ⟨k, b, rfl⟩
def plc (R C s wy t k : Nat) : Nat := if wy = 0 then t * (R * C) + k else if R * C / 2 ≤ k then s * (R * C) - (t + 1) * (R * C - R * C / 2) + k - R * C / 2 else t * (R * C / 2) + k
def pgo (R C s wy : Nat) (lf : Nat → Nat) (tn : Nat → Bool) (t d p : Nat) : Nat := 2 * plc R C s wy t (lf p) + (if decide (d = 1) = tn p then 0 else 1)
def Q2 (R C s wy cal : Nat) (lf sk : Nat → Nat) (tn tb : Nat → Bool) (I : pm_II) : Prop :=
  (1 ≤ R ∧ R ≤ 8 ∧ 1 ≤ C ∧ C ≤ 8 ∧ 1 ≤ s ∧ s ≤ 8 ∧ wy ≤ 1 ∧ cal ≤ 99) ∧
  (I 29 6 = nI R ∧ I 29 7 = nI C ∧ I 29 11 = nI s ∧ I 29 12 = nI wy ∧ I 29 13 = nI cal) ∧
  (I 120 18 = nI R ∧ I 120 19 = nI C ∧ I 120 20 = nI s ∧ I 120 21 = nI wy ∧ I 120 22 = nI cal) ∧
  (∀ p, p < R * C → I 33 p = nI (lf p) ∧ I 34 p = b2i (tn p) ∧ I 35 p = b2i (tb p) ∧ lf p < R * C ∧ sk (lf p) = p) ∧
  (∀ k, k < R * C → I 31 k = nI (sk k) ∧ sk k < R * C ∧ lf (sk k) = k) ∧
  (∀ r c, r < R → c < C → I 132 (8 * r + c) = nI (lf (r * C + c)) ∧ I 133 (8 * r + c) = b2i (tn (r * C + c)) ∧ I 134 (8 * r + c) = b2i (tb (r * C + c)))
def P2 (I : pm_II) : Prop := ∃ R C s wy cal lf sk tn tb, Q2 R C s wy cal lf sk tn tb I
theorem rc_le {R C : Nat} (h1 : R ≤ 8) (h2 : C ≤ 8) : R * C ≤ 64 := Nat.le_trans (Nat.mul_le_mul h1 h2) (by decide)
theorem rc_lt {R C r c : Nat} (h1 : r < R) (h2 : c < C) : r * C + c < R * C := by
  have : (r + 1) * C ≤ R * C := Nat.mul_le_mul_right C h1
  rw [Nat.succ_mul] at this
  omega
section Fold
variable {u : Nat} {I : pm_II} {J : pm_JJ} {R C s wy cal : Nat} {lf sk : Nat → Nat} {tn tb : Nat → Bool}
theorem c_hasSide {x y : Int32} (h : Q2 R C s wy cal lf sk tn tb I) : F_Fo_hasSide u x y I J = some (b2i (rng x s && rgb y 0 1), I, J) := by
  unfold F_Fo_hasSide
  rw [rng_if, rgb_if1, h.2.1.2.2.1]
  show cond (rng x s) _ _ = _
  cases rng x s <;> cases rgb y 0 1 <;> rfl
theorem m_isSide {x y : Int32} (h : Q2 R C s wy cal lf sk tn tb I) : F_Mo_isSide u x y I J = some (b2i (rng x s && rgb y 0 1), I, J) := by
  unfold F_Mo_isSide
  have hs := h.1.2.2.2.2.2.1
  rw [h.2.2.1.2.2.1, m_isB, bd_s, b2i_if0, m_isB, bd_s, b2i_if0, rgb_rng (by omega)]
  cases rng x s <;> cases rgb y 0 1 <;> rfl
theorem c_isPanel {x y : Int32} (h : Q2 R C s wy cal lf sk tn tb I) : F_Fo_isPanel u x y I J = some (b2i (rng x R && rng y C), I, J) := by
  unfold F_Fo_isPanel
  rw [rng_if, rng_if, h.2.1.1, h.2.1.2.1]
  show cond (rng x R) (cond (rng y C) _ _) _ = _
  cases rng x R <;> cases rng y C <;> rfl
theorem c_hasPanel {x y z w : Int32} (h : Q2 R C s wy cal lf sk tn tb I) : F_Fo_hasPanel u x y z w I J = some (b2i ((rng x s && rgb y 0 1) && (rng z R && rng w C)), I, J) := by
  unfold F_Fo_hasPanel
  rw [c_hasSide h, bd_s, b2i_if0, c_isPanel h, bd_s, b2i_if0]
  cases (rng x s && rgb y 0 1) <;> cases (rng z R && rng w C) <;> rfl
theorem m_isPanel {x y z w : Int32} (h : Q2 R C s wy cal lf sk tn tb I) : F_Mo_isPanel u x y z w I J = some (b2i ((rng x s && rgb y 0 1) && (rng z R && rng w C)), I, J) := by
  unfold F_Mo_isPanel
  have hs := h.1
  rw [h.2.2.1.2.2.1, m_isB, bd_s, b2i_if0, m_isB, bd_s, b2i_if0, h.2.2.1.1, m_isB, bd_s, b2i_if0, h.2.2.1.2.1, m_isB, bd_s, b2i_if0, rgb_rng (by omega), rgb_rng (by omega), rgb_rng (by omega)]
  cases rng x s <;> cases rgb y 0 1 <;> cases rng z R <;> cases rng w C <;> rfl
theorem plc_aux {R C s wy t k : Nat} (hR : R ≤ 8) (hC : C ≤ 8) (hs : s ≤ 8) (ht : t < s) (hk : k < R * C) : (t + 1) * (R * C - R * C / 2) ≤ s * (R * C) ∧ s * (R * C) ≤ 512 ∧ t * (R * C) ≤ 512 ∧ t * (R * C / 2) ≤ 512 ∧ (R * C / 2 ≤ k → R * C / 2 ≤ s * (R * C) - (t + 1) * (R * C - R * C / 2) + k) ∧ plc R C s wy t k < s * (R * C) := by
  have h64 := rc_le hR hC
  unfold plc
  generalize R * C = L at *
  have a1 : (t + 1) * (L - L / 2) ≤ s * (L - L / 2) := Nat.mul_le_mul_right _ ht
  have a2 : s * (L - L / 2) ≤ s * L := Nat.mul_le_mul_left _ (by omega)
  have a3 : s * L ≤ 8 * 64 := Nat.mul_le_mul hs h64
  have a4 : t * L ≤ 8 * 64 := Nat.mul_le_mul (by omega) h64
  have a5 : t * (L / 2) ≤ 8 * 64 := Nat.mul_le_mul (by omega) (by omega)
  have a6 : (t + 1) * L ≤ s * L := Nat.mul_le_mul_right _ ht
  have a7 : (t + 1) * (L / 2) ≤ s * (L / 2) := Nat.mul_le_mul_right _ ht
  have a8 : s * (L / 2) + s * (L - L / 2) = s * L := by rw [← Nat.mul_add]; congr 1; omega
  have a9 : 1 * (L - L / 2) ≤ (t + 1) * (L - L / 2) := Nat.mul_le_mul_right _ (by omega)
  rw [Nat.succ_mul] at a6 a7
  refine ⟨by omega, by omega, by omega, by omega, fun _ => by omega, ?_⟩
  split
  · omega
  · split
    · omega
    · omega
theorem pc_eq {t k : Nat} (hwy : wy ≤ 1) (hR : R ≤ 8) (hC : C ≤ 8) (hs : s ≤ 8) (ht : t < s) (hk : k < R * C) {X : pm_II} : (if ¬ nI wy = 0 then (if ((nI R * nI C) / 2) ≤ nI k then some ((((nI s * (nI R * nI C)) - ((nI t + 1) * ((nI R * nI C) - ((nI R * nI C) / 2)))) + nI k - ((nI R * nI C) / 2)), X, J) else some (((nI t * ((nI R * nI C) / 2)) + nI k), X, J)) else some ((nI t * (nI R * nI C)) + nI k, X, J)) = some (nI (plc R C s wy t k), X, J) := by
  obtain ⟨a1, a2, a3, a4, a5, a6⟩ := plc_aux (wy := wy) hR hC hs ht hk
  have h64 := rc_le hR hC
  unfold plc
  rw [nl_2]
  generalize hL : R * C = L at *
  simp (disch := omega) only [pk_mul, hL, pk_div, nI_1]
  rw [pk_sub (show L / 2 ≤ L by omega), pk_mul, pk_sub a1, nI_add, nI_add, nI_add]
  by_cases w : wy = 0
  · rw [if_neg (by rw [w]; decide), if_pos w]
  · rw [if_neg w]
    have : ¬ nI wy = 0 := by
      intro z
      rw [i0_iff (by omega)] at z
      exact w z
    rw [if_pos this]
    by_cases g : L / 2 ≤ k
    · rw [if_pos (by rw [nI_leI (by omega) (by omega)]; exact g), if_pos g, pk_sub (a5 g)]
    · rw [if_neg (by rw [nI_leI (by omega) (by omega)]; exact g), if_neg g]
theorem c_placeOf {t k : Nat} (h : Q2 R C s wy cal lf sk tn tb I) (ht : t < s) (hk : k < R * C) : F_Fo_placeOf u (nI t) (nI k) I J = some (nI (plc R C s wy t k), I, J) := by
  unfold F_Fo_placeOf F_Fo_leaves
  simp only [bd_s, h.2.1.1, h.2.1.2.1, h.2.1.2.2.1, h.2.1.2.2.2.1]
  exact pc_eq h.1.2.2.2.2.2.2.1 h.1.2.1 h.1.2.2.2.1 h.1.2.2.2.2.2.1 ht hk
theorem m_place {t k : Nat} (h : Q2 R C s wy cal lf sk tn tb I) (ht : t < s) (hk : k < R * C) : F_Mo_place u (nI t) (nI k) I J = some (nI (plc R C s wy t k), I, J) := by
  unfold F_Mo_place
  simp only [h.2.2.1.1, h.2.2.1.2.1, h.2.2.1.2.2.1, h.2.2.1.2.2.2.1]
  exact pc_eq h.1.2.2.2.2.2.2.1 h.1.2.1 h.1.2.2.2.1 h.1.2.2.2.2.2.1 ht hk
theorem rng_1 {k m : Nat} (h : k < m) (hm : m < 2 ^ 31) : rng (nI k) m = true := by
  unfold rng
  rw [decide_eq_true]
  exact ⟨Int32.not_lt.mp (nI_pos (by omega)), by rw [nI_ltI (by omega) (by omega)]; exact h⟩
theorem rgb_1 {d : Nat} (h : d ≤ 1) : rgb (nI d) 0 1 = true := by
  match d, h with
  | 0, _ => decide
  | 1, _ => decide
theorem c_pageOn {t d r c : Nat} (h : Q2 R C s wy cal lf sk tn tb I) (ht : t < s) (hd : d ≤ 1) (hr : r < R) (hc : c < C) : F_Fo_pageOn u (nI t) (nI d) (nI r) (nI c) I J = some (nI (pgo R C s wy lf tn t d (r * C + c)), I, J) := by
  have b := h.1
  have h64 := rc_le b.2.1 b.2.2.2.1
  have hp := rc_lt hr hc
  obtain ⟨g1, g2, g3, g4, g5⟩ := h.2.2.2.1 _ hp
  unfold F_Fo_pageOn
  rw [c_hasPanel h, bd_s, b2i_ifn, rng_1 ht (by omega), rgb_1 hd, rng_1 hr (by omega), rng_1 hc (by omega), h.2.1.2.1, pk_mul, nI_add, vqT (show r * C + c < 64 by omega) (by omega), nI_clamp (by omega), g1, c_placeOf h ht g4, bd_s, g2]
  simp only [Bool.and_self, cond_true]
  unfold pgo
  generalize plc R C s wy t (lf (r * C + c)) = P
  match d, hd with
  | 0, _ =>
    cases tn (r * C + c)
    · show some (nI P * 2 + 0, I, J) = some (nI (2 * P + 0), I, J)
      rw [nl_2, pk_mul, Nat.mul_comm]; simp
    · show some (nI P * 2 + 1, I, J) = some (nI (2 * P + 1), I, J)
      rw [nl_2, pk_mul, nI_1, Nat.mul_comm]
  | 1, _ =>
    cases tn (r * C + c)
    · show some (nI P * 2 + 1, I, J) = some (nI (2 * P + 1), I, J)
      rw [nl_2, pk_mul, nI_1, Nat.mul_comm]
    · show some (nI P * 2 + 0, I, J) = some (nI (2 * P + 0), I, J)
      rw [nl_2, pk_mul, Nat.mul_comm]; simp
theorem m_pageOf {t d r c : Nat} (h : Q2 R C s wy cal lf sk tn tb I) (ht : t < s) (hd : d ≤ 1) (hr : r < R) (hc : c < C) : F_Mo_pageOf u (nI t) (nI d) (nI r) (nI c) I J = some (nI (pgo R C s wy lf tn t d (r * C + c)), I, J) := by
  have b := h.1
  have h64 := rc_le b.2.1 b.2.2.2.1
  have hp := rc_lt hr hc
  obtain ⟨_, _, _, g4, _⟩ := h.2.2.2.1 _ hp
  obtain ⟨g1, g2, g3⟩ := h.2.2.2.2.2 r c hr hc
  unfold F_Mo_pageOf F_Mo_pageOf_19 F_Mo_pageOf_34
  rw [nl_8, pk_mul, nI_add, vqT (show 8 * r + c < 64 by omega) (by omega), nI_clamp (by omega), g1, g2, m_place h ht g4]
  simp only [cond_true, bd_s]
  unfold pgo
  generalize plc R C s wy t (lf (r * C + c)) = P
  have e0 : (2 : Int32) * nI P + 0 = nI (2 * P + 0) := by rw [nl_2, pk_mul]; simp
  have e1 : (2 : Int32) * nI P + 1 = nI (2 * P + 1) := by rw [nl_2, pk_mul, nI_1]
  rw [e0, e1]
  match d, hd with
  | 0, _ =>
    cases tn (r * C + c) <;> rfl
  | 1, _ =>
    cases tn (r * C + c) <;> rfl
theorem st_page {x y z w : Int32} (h : P2 I) : ∃ v, F_Ph_page u x y z w I J = some (v, I, J) ∧ F_Mo_page u x y z w I J = some (v, I, J) := by
  obtain ⟨R, C, s, wy, cal, lf, sk, tn, tb, h⟩ := h
  have b := h.1
  have h64 := rc_le b.2.1 b.2.2.2.1
  unfold F_Ph_page F_Mo_page
  rw [c_hasPanel h, bd_s, m_isPanel h, bd_s, b2i_ifn, b2i_ifn]
  cases e : (rng x s && rgb y 0 1) && (rng z R && rng w C) with
  | false => exact ⟨_, rfl, rfl⟩
  | true =>
    simp only [Bool.and_eq_true] at e
    obtain ⟨t, ht, rfl⟩ := rng_n (by omega) e.1.1
    obtain ⟨d, _, hd, rfl⟩ := rgb_n (lo := 0) (hi := 1) (by omega) (by omega) e.1.2
    obtain ⟨r, hr, rfl⟩ := rng_n (by omega) e.2.1
    obtain ⟨c, hc, rfl⟩ := rng_n (by omega) e.2.2
    have hp := rc_lt hr hc
    obtain ⟨_, _, g3, _, _⟩ := h.2.2.2.1 _ hp
    obtain ⟨_, _, k3⟩ := h.2.2.2.2.2 r c hr hc
    rw [c_pageOn h ht hd hr hc, bd_s, m_pageOf h ht hd hr hc, bd_s]
    unfold F_Fo_isUpsideDown
    rw [c_isPanel h, bd_s, b2i_if0, e.2.1, e.2.2, h.2.1.2.1, pk_mul, nI_add, vqT (show r * C + c < 64 by omega) (by omega), nI_clamp (by omega), g3, nl_8, pk_mul, nI_add, vqT (show 8 * r + c < 64 by omega) (by omega), nI_clamp (by omega), k3]
    simp only [Bool.and_self, cond_true]
    cases tb (r * C + c)
    · refine ⟨_, rfl, ?_⟩
      show some (_ + 0, I, J) = _
      simp
    · exact ⟨_, rfl, rfl⟩
theorem st_book {x y z : Int32} (h : P2 I) : ∃ v I1 I2, F_Fo_bind u x y z I J = some (v, I1, J) ∧ F_Mo_book u x y z I1 J = some (v, I2, J) ∧ P2 I2 ∧ Fr 2 I I2 ∧ (Ptape I → Ptape I2) := by
  obtain ⟨R, C, s, wy, cal, lf, sk, tn, tb, h⟩ := h
  have b := h.1
  unfold F_Fo_bind F_Mo_book
  simp only [rgb_if1, rgb_if2, m_isB, bd_s, b2i_if0, b2i_ifn]
  cases e1 : rgb x 1 8 with
  | false => exact ⟨_, I, I, rfl, rfl, ⟨R, C, s, wy, cal, lf, sk, tn, tb, h⟩, Fr.refl _ _, id⟩
  | true =>
    cases e2 : rgb y 0 1 with
    | false => exact ⟨_, I, I, rfl, rfl, ⟨R, C, s, wy, cal, lf, sk, tn, tb, h⟩, Fr.refl _ _, id⟩
    | true =>
      cases e3 : rgb z 1 99 with
      | false => exact ⟨_, I, I, rfl, rfl, ⟨R, C, s, wy, cal, lf, sk, tn, tb, h⟩, Fr.refl _ _, id⟩
      | true =>
        obtain ⟨s', h1, h2, rfl⟩ := rgb_n (lo := 1) (hi := 8) (by omega) (by omega) e1
        obtain ⟨w', _, h3, rfl⟩ := rgb_n (lo := 0) (hi := 1) (by omega) (by omega) e2
        obtain ⟨c', h4, h5, rfl⟩ := rgb_n (lo := 1) (hi := 99) (by omega) (by omega) e3
        refine ⟨nI s' * (nI R * nI C) * 2, pm_up (pm_up (pm_up I 29 11 (nI s')) 29 12 (nI w')) 29 13 (nI c'), pm_up (pm_up (pm_up (pm_up (pm_up (pm_up I 29 11 (nI s')) 29 12 (nI w')) 29 13 (nI c')) 120 20 (nI s')) 120 21 (nI w')) 120 22 (nI c'), ?_, ?_, ⟨R, C, s', w', c', lf, sk, tn, tb, ?_⟩, ?_, ?_⟩
        · simp only [cond_true]
          unfold F_Fo_leaves
          rw [bd_s]
          have g1 : (pm_up (pm_up (pm_up I 29 11 (nI s')) 29 12 (nI w')) 29 13 (nI c')) 29 6 = nI R := h.2.1.1
          have g2 : (pm_up (pm_up (pm_up I 29 11 (nI s')) 29 12 (nI w')) 29 13 (nI c')) 29 7 = nI C := h.2.1.2.1
          rw [g1, g2]
        · simp only [cond_true]
          have g1 : (pm_up (pm_up (pm_up I 29 11 (nI s')) 29 12 (nI w')) 29 13 (nI c')) 120 18 = nI R := h.2.2.1.1
          have g2 : (pm_up (pm_up (pm_up I 29 11 (nI s')) 29 12 (nI w')) 29 13 (nI c')) 120 19 = nI C := h.2.2.1.2.1
          rw [g1, g2, nl_2, pk_mul, pk_mul, pk_mul, pk_mul, pk_mul, pk_mul]
          congr 3
          rw [Nat.mul_assoc, Nat.mul_assoc, Nat.mul_comm 2]
        · refine ⟨⟨b.1, b.2.1, b.2.2.1, b.2.2.2.1, h1, h2, h3, h5⟩, ⟨h.2.1.1, h.2.1.2.1, rfl, rfl, rfl⟩, ⟨h.2.2.1.1, h.2.2.1.2.1, rfl, rfl, rfl⟩, h.2.2.2.1, h.2.2.2.2.1, h.2.2.2.2.2⟩
        · refine Fr.up (Fr.up (Fr.up (Fr.up (Fr.up (Fr.up (Fr.refl _ _) ?_) ?_) ?_) ?_) ?_) ?_ <;> exact Or.inr rfl
        · exact fun hp => hp
end Fold
