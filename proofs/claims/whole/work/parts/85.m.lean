/-! ===== letters: keys and ranks ===== -/
def ky (c : Nat) (m : Int64) : Nat := c * 2 ^ 64 + (m.toInt + 2 ^ 63).toNat
theorem i64_rng (m : Int64) : -9223372036854775808 ≤ m.toInt ∧ m.toInt < 9223372036854775808 := by
  have h1 := Int64.le_toInt m
  have h2 := Int64.toInt_lt m
  exact ⟨h1, h2⟩
theorem ky_lt {c d : Nat} {m q : Int64} : ky c m < ky d q ↔ c < d ∨ (c = d ∧ m < q) := by
  have h1 := i64_rng m
  have h2 := i64_rng q
  rw [Int64.lt_iff_toInt_lt]
  unfold ky
  omega
theorem ky_eq {c d : Nat} {m q : Int64} : ky c m = ky d q ↔ c = d ∧ m = q := by
  have h1 := i64_rng m
  have h2 := i64_rng q
  rw [← Int64.toInt_inj]
  unfold ky
  omega
def rkn (κ : Nat → Nat) (L x : Nat) : Nat := cnt (fun j => decide (κ j < x)) L
theorem cnt_mon {G H : Nat → Bool} : ∀ n, (∀ k, k < n → G k = true → H k = true) → cnt G n ≤ cnt H n
  | 0, _ => Nat.le_refl _
  | n + 1, h => by
    have := cnt_mon n (fun k hk => h k (by omega))
    rw [cnt, cnt]
    cases hg : G n with
    | false => simp; omega
    | true => rw [h n (by omega) hg]; omega
theorem cnt_str {G H : Nat → Bool} : ∀ n, (∀ k, k < n → G k = true → H k = true) → (∃ k, k < n ∧ G k = false ∧ H k = true) → cnt G n < cnt H n
  | 0, _, ⟨k, hk, _⟩ => by omega
  | n + 1, h, ⟨k, hk, h1, h2⟩ => by
    have m := cnt_mon n (fun k hk => h k (by omega))
    rw [cnt, cnt]
    by_cases c : k = n
    · subst c; rw [h1, h2]; simp; omega
    · have := cnt_str n (fun k hk => h k (by omega)) ⟨k, by omega, h1, h2⟩
      cases hg : G n with
      | false => simp; omega
      | true => rw [h n (by omega) hg]; omega
section Rank
variable {κ : Nat → Nat} {L : Nat}
theorem rk_mono {x y : Nat} (h : x ≤ y) : rkn κ L x ≤ rkn κ L y := cnt_mon L (fun k _ hk => decide_eq_true (Nat.lt_of_lt_of_le (of_decide_eq_true hk) h))
theorem rk_str {k y : Nat} (hk : k < L) (h : κ k < y) : rkn κ L (κ k) < rkn κ L y := cnt_str L (fun j _ hj => decide_eq_true (Nat.lt_trans (of_decide_eq_true hj) h)) ⟨k, hk, decide_eq_false (Nat.lt_irrefl _), decide_eq_true h⟩
theorem rk_iff {k x : Nat} (hk : k < L) : κ k < x ↔ rkn κ L (κ k) < rkn κ L x := by
  constructor
  · exact rk_str hk
  · intro h
    by_cases c : κ k < x
    · exact c
    · have := rk_mono (κ := κ) (L := L) (x := x) (y := κ k) (by omega)
      omega
theorem rk_lt {k : Nat} (hk : k < L) : rkn κ L (κ k) < L := by
  have h1 := rk_str (κ := κ) hk (Nat.lt_succ_self (κ k))
  have h2 := cnt_le (G := fun j => decide (κ j < κ k + 1)) L
  unfold rkn at h1 ⊢
  exact Nat.lt_of_lt_of_le h1 h2
theorem rk_inj (hi : injP κ L) : injP (fun k => rkn κ L (κ k)) L := by
  intro j k hj hk e
  have e' : rkn κ L (κ j) = rkn κ L (κ k) := e
  apply hi j k hj hk
  by_cases c : κ j < κ k
  · have := rk_str (κ := κ) hj c; omega
  · by_cases d : κ k < κ j
    · have := rk_str (κ := κ) hk d; omega
    · omega
theorem rk_sur (hi : injP κ L) : ∀ i, i < L → ∃ k, k < L ∧ rkn κ L (κ k) = i := onto_ex (inj_onto (f := fun k => rkn κ L (κ k)) (n := L) (fun k hk => rk_lt hk) (rk_inj hi))
theorem rk_c {κ2 : Nat → Nat} {x : Nat} (h : ∀ j, j < L → κ j = κ2 j) : rkn κ L x = rkn κ2 L x := cnt_c L (fun j hj => by rw [h j hj])
theorem rk_s {x : Nat} : rkn κ (L + 1) x = rkn κ L x + (decide (κ L < x)).toNat := rfl
end Rank
/-- the letters in the order in which they came: how many, codes, names -/
abbrev LTt : Type := Nat × (Nat → Nat) × (Nat → Int64)
def lky (s : LTt) (k : Nat) : Nat := ky (s.2.1 k) (s.2.2 k)
def inl (s : LTt) (c : Nat) (m : Int64) : Bool := decide (∃ j, j < s.1 ∧ lky s j = ky c m)
def adl (s : LTt) (c : Nat) (m : Int64) : LTt := cond (inl s c m) s (s.1 + 1, fun k => if k = s.1 then c else s.2.1 k, fun k => if k = s.1 then m else s.2.2 k)
def okl (s : LTt) : Prop := injP (lky s) s.1 ∧ ∀ k, k < s.1 → s.2.1 k < 100000
theorem inl_iff {s : LTt} {c : Nat} {m : Int64} : inl s c m = true ↔ ∃ j, j < s.1 ∧ s.2.1 j = c ∧ s.2.2 j = m := by
  unfold inl
  rw [decide_eq_true_eq]
  constructor
  · rintro ⟨j, hj, e⟩; exact ⟨j, hj, ky_eq.mp e⟩
  · rintro ⟨j, hj, e⟩; exact ⟨j, hj, ky_eq.mpr e⟩
theorem lky_adl {s : LTt} {c : Nat} {m : Int64} (h : inl s c m = false) : (adl s c m).1 = s.1 + 1 ∧ (∀ k, k < s.1 → lky (adl s c m) k = lky s k) ∧ lky (adl s c m) s.1 = ky c m := by
  unfold adl lky
  rw [h]
  refine ⟨rfl, fun k hk => ?_, ?_⟩
  · show ky (if k = s.1 then c else s.2.1 k) (if k = s.1 then m else s.2.2 k) = _
    rw [if_neg (by omega), if_neg (by omega)]
  · show ky (if s.1 = s.1 then c else _) (if s.1 = s.1 then m else _) = _
    rw [if_pos rfl, if_pos rfl]
theorem okl_adl {s : LTt} {c : Nat} {m : Int64} (h : okl s) (hc : c < 100000) : okl (adl s c m) := by
  cases hi : inl s c m with
  | true =>
    have : adl s c m = s := by unfold adl; rw [hi]; rfl
    rw [this]; exact h
  | false =>
    obtain ⟨e1, e2, e3⟩ := lky_adl hi
    have hne : ∀ k, k < s.1 → lky s k ≠ ky c m := by
      intro k hk e
      have : inl s c m = true := by unfold inl; rw [decide_eq_true]; exact ⟨k, hk, e⟩
      rw [this] at hi; cases hi
    refine ⟨fun j k hj hk e => ?_, fun k hk => ?_⟩
    · rw [e1] at hj hk
      by_cases a : j = s.1
      · by_cases b : k = s.1
        · omega
        · exfalso
          rw [a, e3, e2 k (by omega)] at e
          exact hne k (by omega) e.symm
      · by_cases b : k = s.1
        · exfalso
          rw [b, e3, e2 j (by omega)] at e
          exact hne j (by omega) e
        · rw [e2 j (by omega), e2 k (by omega)] at e
          exact h.1 j k (by omega) (by omega) e
    · rw [e1] at hk
      unfold adl
      rw [hi]
      show (if k = s.1 then c else s.2.1 k) < 100000
      split
      · exact hc
      · exact h.2 k (by omega)
/-- class: the list in its order; came -/
def LC (s : LTt) (cm : Nat → Nat) (K : Nat) (I : pm_II) (J : pm_JJ) : Prop := s.1 ≤ 120 ∧ K < 2 ^ 20 ∧ (∀ j k, j < k → k < s.1 → cm j < cm k) ∧ (∀ k, k < s.1 → cm k < K) ∧ I 89 6 = nI s.1 ∧ I 89 7 = nI K ∧ ∀ k, k < s.1 → I 90 (rkn (lky s) s.1 (lky s k)) = nI (s.2.1 k) ∧ J 91 (rkn (lky s) s.1 (lky s k)) = s.2.2 k ∧ I 92 (rkn (lky s) s.1 (lky s k)) = nI (cm k)
section ListS
variable {u : Nat} {I : pm_II} {J : pm_JJ} {s : LTt} {cm : Nat → Nat} {K c : Nat} {m : Int64}
theorem l_has {x : Nat} (h : LC s cm K I J) (hx : x < 2 ^ 31) : F_Ma_has u (nI x) I J = some (b2i (decide (x < s.1)), I, J) := by
  have h1 := h.1
  unfold F_Ma_has
  rw [if_neg (nI_pos hx), h.2.2.2.2.1, show (120 : Int32) = nI 120 from rfl]
  by_cases c : x < s.1
  · rw [if_neg (by rw [nI_leI (by omega) (by omega)]; omega), if_neg (by rw [nI_leI (by omega) (by omega)]; omega), decide_eq_true c]; rfl
  · rw [if_pos (by rw [nI_leI (by omega) (by omega)]; omega), decide_eq_false c]; rfl
theorem l_place (ho : okl s) (h : LC s cm K I J) (hc : c < 100000) : ∀ (d i N : Nat), i + d = rkn (lky s) s.1 (ky c m) → d < N → F_Ma_placeFor_3 u N (nI c) m (nI i) I J = some (nI (rkn (lky s) s.1 (ky c m)), I, J) := by
  have h120 := h.1
  have hr := cnt_le (G := fun j => decide (lky s j < ky c m)) s.1
  have hr' : rkn (lky s) s.1 (ky c m) ≤ s.1 := hr
  have step : ∀ i, i < s.1 → ∃ k, k < s.1 ∧ rkn (lky s) s.1 (lky s k) = i ∧ F_Ma_isAhead u (nI i) (nI c) m I J = some (b2i (decide (lky s k < ky c m)), I, J) := by
    intro i hi
    obtain ⟨k, hk, e⟩ := rk_sur ho.1 i hi
    refine ⟨k, hk, e, ?_⟩
    obtain ⟨a1, a2, a3⟩ := h.2.2.2.2.2.2 k hk
    rw [e] at a1 a2
    have hcd := ho.2 k hk
    unfold F_Ma_isAhead
    rw [vqT (show i < 120 by omega) (by omega), nI_clamp (by omega), a1, a2]
    simp (disch := omega) only [cond_true, nI_ltI, nI_eq, lg_cmp_ge]
    have e2 : (lky s k < ky c m) ↔ (s.2.1 k < c ∨ (s.2.1 k = c ∧ s.2.2 k < m)) := ky_lt
    by_cases q1 : s.2.1 k < c
    · rw [if_pos q1, decide_eq_true (e2.mpr (Or.inl q1))]; rfl
    · rw [if_neg q1]
      by_cases q2 : s.2.1 k = c
      · rw [if_neg (by simpa using q2)]
        by_cases q3 : m ≤ s.2.2 k
        · rw [if_pos q3, decide_eq_false]; rfl
          intro z
          rcases e2.mp z with z | z
          · omega
          · rw [Int64.lt_iff_toInt_lt] at z
            rw [Int64.le_iff_toInt_le] at q3
            omega
        · rw [if_neg q3, decide_eq_true]; rfl
          rw [Int64.le_iff_toInt_le] at q3
          exact e2.mpr (Or.inr ⟨q2, by rw [Int64.lt_iff_toInt_lt]; omega⟩)
      · rw [if_pos q2, decide_eq_false]; rfl
        intro z
        rcases e2.mp z with z | z
        · omega
        · exact q2 z.1
  intro d
  induction d with
  | zero =>
    intro i N hi hN
    obtain ⟨N, rfl⟩ : ∃ z, N = z + 1 := ⟨N - 1, by omega⟩
    have hi2 : i = rkn (lky s) s.1 (ky c m) := by omega
    rw [F_Ma_placeFor_3, h.2.2.2.2.1]
    unfold F_Ma_placeFor_36
    by_cases q : s.1 ≤ i
    · rw [if_pos (by rw [nI_leI (by omega) (by omega)]; exact q), hi2]
    · rw [if_neg (by rw [nI_leI (by omega) (by omega)]; exact q), show (120 : Int32) = nI 120 from rfl, if_neg (by rw [nI_leI (by omega) (by omega)]; omega)]
      obtain ⟨k, hk, e, e2⟩ := step i (by omega)
      rw [e2, bd_s, decide_eq_false, if_pos (show b2i false = 0 from rfl), hi2]
      intro z
      have := (rk_iff (κ := lky s) (L := s.1) hk).mp z
      omega
  | succ d ih =>
    intro i N hi hN
    obtain ⟨N, rfl⟩ : ∃ z, N = z + 1 := ⟨N - 1, by omega⟩
    obtain ⟨k, hk, e, e2⟩ := step i (by omega)
    rw [F_Ma_placeFor_3, h.2.2.2.2.1, if_neg (by rw [nI_leI (by omega) (by omega)]; omega), show (120 : Int32) = nI 120 from rfl, if_neg (by rw [nI_leI (by omega) (by omega)]; omega), e2, bd_s, decide_eq_true, if_neg (show ¬ b2i true = 0 by decide), nI_io1, nI_add]
    · exact ih (i + 1) N (by omega) (by omega)
    · exact (rk_iff (κ := lky s) (L := s.1) hk).mpr (by omega)
theorem l_placeFor (hu : 200 ≤ u) (ho : okl s) (h : LC s cm K I J) (hc : c < 100000) : F_Ma_placeFor u (nI c) m I J = some (nI (rkn (lky s) s.1 (ky c m)), I, J) := by
  have hr := cnt_le (G := fun j => decide (lky s j < ky c m)) s.1
  have hr' : rkn (lky s) s.1 (ky c m) ≤ s.1 := hr
  have h120 := h.1
  exact l_place ho h hc _ 0 u (Nat.zero_add _) (by omega)
theorem l_isThere (hu : 200 ≤ u) (ho : okl s) (h : LC s cm K I J) (hc : c < 100000) : F_Ma_isThere u (nI c) m I J = some (b2i (inl s c m), I, J) := by
  have hr := cnt_le (G := fun j => decide (lky s j < ky c m)) s.1
  have hr' : rkn (lky s) s.1 (ky c m) ≤ s.1 := hr
  have h120 := h.1
  unfold F_Ma_isThere
  rw [l_placeFor hu ho h hc, bd_s, l_has h (by omega), bd_s, b2i_if0]
  by_cases q : rkn (lky s) s.1 (ky c m) < s.1
  · rw [decide_eq_true q, cond_true]
    obtain ⟨k, hk, e⟩ := rk_sur ho.1 _ q
    obtain ⟨a1, a2, a3⟩ := h.2.2.2.2.2.2 k hk
    rw [e] at a1 a2
    have hcd := ho.2 k hk
    rw [vqT (show rkn (lky s) s.1 (ky c m) < 120 by omega) (by omega), cond_true, cond_true, nI_clamp (by omega), a1, a2]
    simp (disch := omega) only [nI_eq, lg_cmp_eq]
    by_cases z : s.2.1 k = c ∧ s.2.2 k = m
    · rw [if_neg (by simpa using z.1), if_neg (by simpa using z.2), inl_iff.mpr ⟨k, hk, z⟩]; rfl
    · have hf : inl s c m = false := by
        cases hh : inl s c m with
        | false => rfl
        | true =>
          exfalso
          obtain ⟨j, hj, e1, e2⟩ := inl_iff.mp hh
          have ej : lky s j = ky c m := ky_eq.mpr ⟨e1, e2⟩
          rw [← ej] at e
          have := rk_inj ho.1 k j hk hj e
          subst this
          exact z ⟨e1, e2⟩
      rw [hf]
      by_cases z1 : s.2.1 k = c
      · rw [if_neg (by simpa using z1), if_pos (fun y => z ⟨z1, y⟩)]; rfl
      · rw [if_pos z1]; rfl
  · rw [decide_eq_false q, cond_false]
    have hf : inl s c m = false := by
      cases hh : inl s c m with
      | false => rfl
      | true =>
        exfalso
        obtain ⟨j, hj, e1, e2⟩ := inl_iff.mp hh
        have ej : lky s j = ky c m := ky_eq.mpr ⟨e1, e2⟩
        have := rk_lt (κ := lky s) hj
        rw [ej] at this
        exact q this
    rw [hf]; rfl
end ListS
