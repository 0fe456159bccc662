/-! ===== jobs: orders as numbers ===== -/
def sq (n v k : Nat) : Nat := v / n ^ (n - 1 - k) % n
def sumN (g : Nat → Nat) : Nat → Nat
  | 0 => 0
  | i + 1 => sumN g i + g i
theorem sumN_c {g h : Nat → Nat} : ∀ n, (∀ i, i < n → g i = h i) → sumN g n = sumN h n
  | 0, _ => rfl
  | n + 1, e => by rw [sumN, sumN, sumN_c n (fun i hi => e i (by omega)), e n (by omega)]
theorem sumN_add {g h : Nat → Nat} : ∀ n, sumN (fun i => g i + h i) n = sumN g n + sumN h n
  | 0 => rfl
  | n + 1 => by rw [sumN, sumN, sumN, sumN_add n]; omega
theorem sumN_one {x : Nat} : ∀ n, sumN (fun i => (decide (x = i)).toNat) n = if x < n then 1 else 0
  | 0 => rfl
  | n + 1 => by
    rw [sumN, sumN_one n]
    by_cases c : x = n
    · subst c; rw [decide_eq_true rfl, if_neg (by omega), if_pos (by omega)]; rfl
    · rw [decide_eq_false c]
      by_cases d : x < n
      · rw [if_pos d, if_pos (by omega)]; rfl
      · rw [if_neg d, if_neg (by omega)]; rfl
def pcn (f : Nat → Nat) (m i : Nat) : Nat := cnt (fun k => decide (f k = i)) m
theorem sumN_0 : ∀ n, sumN (fun _ => 0) n = 0
  | 0 => rfl
  | n + 1 => by rw [sumN, sumN_0 n]
theorem sum_cnt {f : Nat → Nat} {n : Nat} : ∀ m, (∀ k, k < m → f k < n) → sumN (pcn f m) n = m
  | 0, _ => sumN_0 n
  | m + 1, h => by
    have e : ∀ i, i < n → pcn f (m + 1) i = pcn f m i + (decide (f m = i)).toNat := fun i _ => rfl
    rw [sumN_c n e, sumN_add, sum_cnt m (fun k hk => h k (by omega)), sumN_one, if_pos (h m (by omega))]
theorem sumN_le1 {g : Nat → Nat} : ∀ n, (∀ i, i < n → g i ≤ 1) → sumN g n ≤ n
  | 0, _ => Nat.le_refl _
  | n + 1, h => by
    have := sumN_le1 n (fun i hi => h i (by omega))
    have := h n (by omega)
    rw [sumN]; omega
theorem sumN_ge1 {g : Nat → Nat} : ∀ n, (∀ i, i < n → 1 ≤ g i) → n ≤ sumN g n
  | 0, _ => Nat.le_refl _
  | n + 1, h => by
    have := sumN_ge1 n (fun i hi => h i (by omega))
    have := h n (by omega)
    rw [sumN]; omega
theorem sumN_eq1 {g : Nat → Nat} : ∀ n, (∀ i, i < n → g i ≤ 1) → sumN g n = n → ∀ i, i < n → g i = 1
  | 0, _, _, i, hi => by omega
  | n + 1, h, e, i, hi => by
    have h1 := sumN_le1 n (fun i hi => h i (by omega))
    have h2 := h n (by omega)
    rw [sumN] at e
    by_cases c : i = n
    · subst c; omega
    · exact sumN_eq1 n (fun i hi => h i (by omega)) (by omega) i (by omega)
theorem sumN_eq2 {g : Nat → Nat} : ∀ n, (∀ i, i < n → 1 ≤ g i) → sumN g n = n → ∀ i, i < n → g i = 1
  | 0, _, _, i, hi => by omega
  | n + 1, h, e, i, hi => by
    have h1 := sumN_ge1 n (fun i hi => h i (by omega))
    have h2 := h n (by omega)
    rw [sumN] at e
    by_cases c : i = n
    · subst c; omega
    · exact sumN_eq2 n (fun i hi => h i (by omega)) (by omega) i (by omega)
theorem cnt_pos {G : Nat → Bool} : ∀ m, 1 ≤ cnt G m ↔ ∃ k, k < m ∧ G k = true
  | 0 => ⟨fun h => by simp [cnt] at h, fun ⟨k, hk, _⟩ => by omega⟩
  | m + 1 => by
    rw [cnt]
    constructor
    · intro h
      cases c : G m with
      | true => exact ⟨m, by omega, c⟩
      | false =>
        rw [c] at h
        obtain ⟨k, hk, e⟩ := (cnt_pos m).mp (by simpa using h)
        exact ⟨k, by omega, e⟩
    · intro ⟨k, hk, e⟩
      by_cases c : k = m
      · subst c; rw [e]; simp
      · have := (cnt_pos m).mpr ⟨k, by omega, e⟩
        omega
theorem cnt_u1 {G : Nat → Bool} : ∀ m, (∀ j k, j < m → k < m → G j = true → G k = true → j = k) → cnt G m ≤ 1
  | 0, _ => by simp [cnt]
  | m + 1, h => by
    rw [cnt]
    have ih := cnt_u1 m (fun j k a b => h j k (by omega) (by omega))
    cases c : G m with
    | false => simpa using ih
    | true =>
      have : ¬ 1 ≤ cnt G m := by
        intro z
        obtain ⟨k, hk, e⟩ := (cnt_pos m).mp z
        have := h m k (by omega) (by omega) c e
        omega
      have : cnt G m = 0 := by omega
      rw [this]; simp
theorem cnt_u2 {G : Nat → Bool} : ∀ m, cnt G m ≤ 1 → ∀ j k, j < k → k < m → G j = true → G k = true → False
  | 0, _, _, _, _, hk, _, _ => by omega
  | m + 1, h, j, k, hj, hk, e1, e2 => by
    rw [cnt] at h
    by_cases c : k = m
    · subst c
      rw [e2] at h
      have := (cnt_pos k).mpr ⟨j, hj, e1⟩
      simp at h
      omega
    · exact cnt_u2 m (by omega) j k hj (by omega) e1 e2
def injP (f : Nat → Nat) (m : Nat) : Prop := ∀ j k, j < m → k < m → f j = f k → j = k
def ontoP (f : Nat → Nat) (n : Nat) : Prop := ∀ i, i < n → 1 ≤ pcn f n i
theorem inj_onto {f : Nat → Nat} {n : Nat} (hf : ∀ k, k < n → f k < n) (h : injP f n) : ontoP f n := by
  have h1 : ∀ i, i < n → pcn f n i ≤ 1 := fun i hi => cnt_u1 n (fun j k a b c d => h j k a b (by rw [of_decide_eq_true c, of_decide_eq_true d]))
  intro i hi
  rw [sumN_eq1 n h1 (sum_cnt n hf) i hi]
  exact Nat.le_refl 1
theorem onto_inj {f : Nat → Nat} {n : Nat} (hf : ∀ k, k < n → f k < n) (h : ontoP f n) : injP f n := by
  have h1 := sumN_eq2 n h (sum_cnt n hf)
  intro j k hj hk e
  have hc : cnt (fun x => decide (f x = f k)) n ≤ 1 := by
    have := h1 (f k) (hf k hk)
    exact Nat.le_of_eq this
  by_cases c : j < k
  · exact (cnt_u2 n hc j k c hk (decide_eq_true e) (decide_eq_true rfl)).elim
  · by_cases d : k < j
    · exact (cnt_u2 n hc k j d hj (decide_eq_true rfl) (decide_eq_true e)).elim
    · omega
theorem onto_ex {f : Nat → Nat} {n : Nat} (h : ontoP f n) : ∀ i, i < n → ∃ k, k < n ∧ f k = i := by
  intro i hi
  obtain ⟨k, hk, e⟩ := (cnt_pos n).mp (h i hi)
  exact ⟨k, hk, of_decide_eq_true e⟩
/-! digits -/
theorem sq_lt {n v k : Nat} (hn : 0 < n) : sq n v k < n := Nat.mod_lt _ hn
theorem sq_pre {n m k a r j : Nat} (hm : k + m = n) (hr : r < n ^ m) (hj : j < k) : sq n (a * n ^ m + r) j = sq n (a * n ^ m) j := by
  unfold sq
  have e : n - 1 - j = m + (k - 1 - j) := by omega
  rw [e, Nat.pow_add, ← Nat.div_div_eq_div_mul, ← Nat.div_div_eq_div_mul, (dm_d hr).1, Nat.mul_div_cancel _ (by omega)]
theorem sq_new {n m k a i : Nat} (hm : k + (m + 1) = n) (hi : i < n) : sq n ((a * n + i) * n ^ m) k = i := by
  unfold sq
  have e : n - 1 - k = m := by omega
  rw [e, Nat.mul_div_cancel _ (Nat.pow_pos (by omega))]
  exact (dm_d hi).2
theorem sq_old {n m k a i j : Nat} (hm : k + (m + 1) = n) (hi : i < n) (hj : j < k) : sq n ((a * n + i) * n ^ m) j = sq n (a * n ^ (m + 1)) j := by
  have e : (a * n + i) * n ^ m = a * n ^ (m + 1) + i * n ^ m := by rw [Nat.add_mul, Nat.pow_succ, Nat.mul_assoc, Nat.mul_comm n]
  have hr : i * n ^ m < n ^ (m + 1) := by
    rw [Nat.pow_succ, Nat.mul_comm (n ^ m)]
    exact Nat.mul_lt_mul_of_pos_right hi (Nat.pow_pos (by omega))
  rw [e]
  exact sq_pre hm hr hj
/-! the time of an order -/
section TL
variable (col pr bi du : Nat → Nat) (ch dr : Nat)
def chg (σ : Nat → Nat) (k : Nat) : Bool := decide (k ≠ 0 ∧ col (σ k) ≠ col (σ (k - 1)))
def tl (σ : Nat → Nat) : Nat → Nat × Nat × Nat
  | 0 => (0, 0, 0)
  | k + 1 => ((tl σ k).1 + cond (chg col σ k) ch 0 + pr (σ k), max ((tl σ k).1 + cond (chg col σ k) ch 0 + pr (σ k) + dr) (tl σ k).2.1 + bi (σ k), (tl σ k).2.2 + (max ((tl σ k).1 + cond (chg col σ k) ch 0 + pr (σ k) + dr) (tl σ k).2.1 + bi (σ k) - du (σ k)))
theorem tl_c {σ τ : Nat → Nat} : ∀ k, (∀ j, j < k → σ j = τ j) → tl col pr bi du ch dr σ k = tl col pr bi du ch dr τ k
  | 0, _ => rfl
  | k + 1, h => by
    have e : chg col σ k = chg col τ k := by
      unfold chg
      by_cases c : k = 0
      · subst c; simp
      · rw [h k (by omega), h (k - 1) (by omega)]
    rw [tl, tl, tl_c k (fun j hj => h j (by omega)), e, h k (by omega)]
theorem tl_mono {σ : Nat → Nat} : ∀ d k, (tl col pr bi du ch dr σ k).2.1 ≤ (tl col pr bi du ch dr σ (k + d)).2.1 ∧ (tl col pr bi du ch dr σ k).2.2 ≤ (tl col pr bi du ch dr σ (k + d)).2.2
  | 0, k => ⟨Nat.le_refl _, Nat.le_refl _⟩
  | d + 1, k => by
    have h := tl_mono (σ := σ) d k
    rw [← Nat.add_assoc, tl]
    dsimp only
    constructor
    · omega
    · omega
theorem tl_le {σ : Nat → Nat} (h1 : ∀ j, pr j ≤ 99) (h2 : ∀ j, bi j ≤ 99) (hc : ch ≤ 50) (hd : dr ≤ 50) : ∀ k, (tl col pr bi du ch dr σ k).1 ≤ 149 * k ∧ (tl col pr bi du ch dr σ k).2.1 ≤ 248 * k + 50 ∧ (tl col pr bi du ch dr σ k).2.2 ≤ (248 * k + 50) * k
  | 0 => by simp [tl]
  | k + 1 => by
    have h := tl_le (σ := σ) h1 h2 hc hd k
    have a := h1 (σ k)
    have b := h2 (σ k)
    have e : cond (chg col σ k) ch 0 ≤ 50 := by cases chg col σ k <;> simp <;> omega
    rw [tl]
    dsimp only
    have h7 : (248 * k + 50) * k ≤ (248 * (k + 1) + 50) * k := Nat.mul_le_mul_right _ (by omega)
    have h8 : (248 * (k + 1) + 50) * (k + 1) = (248 * (k + 1) + 50) * k + (248 * (k + 1) + 50) := Nat.mul_succ _ _
    generalize (248 * k + 50) * k = q1 at *
    generalize (248 * (k + 1) + 50) * k = q2 at *
    refine ⟨by omega, by omega, by omega⟩
abbrev BO : Type := Option (Nat × Nat × Nat)
def lth (l o : Nat) (b : BO) : Bool := match b with
  | none => true
  | some (l2, o2, _) => decide (l < l2 ∨ (l = l2 ∧ o < o2))
def prm (n v : Nat) : Bool := decide (∀ i, i < n → 1 ≤ pcn (sq n v) n i)
def upd1 (n v : Nat) (b : BO) : BO := cond (prm n v && lth (tl col pr bi du ch dr (sq n v) n).2.2 (tl col pr bi du ch dr (sq n v) n).2.1 b) (some ((tl col pr bi du ch dr (sq n v) n).2.2, (tl col pr bi du ch dr (sq n v) n).2.1, v)) b
def fol (n : Nat) : Nat → Nat → BO → BO
  | _, 0, b => b
  | lo, k + 1, b => fol n (lo + 1) k (upd1 col pr bi du ch dr n lo b)
theorem fol_add (n : Nat) : ∀ k lo m b, fol col pr bi du ch dr n lo (k + m) b = fol col pr bi du ch dr n (lo + k) m (fol col pr bi du ch dr n lo k b)
  | 0, lo, m, b => by rw [Nat.zero_add]; rfl
  | k + 1, lo, m, b => by
    rw [show k + 1 + m = (k + m) + 1 by omega, fol, fol_add n k, fol, show lo + 1 + k = lo + (k + 1) by omega]
theorem fol_id (n : Nat) : ∀ k lo b, (∀ r, r < k → upd1 col pr bi du ch dr n (lo + r) b = b) → fol col pr bi du ch dr n lo k b = b
  | 0, lo, b, _ => rfl
  | k + 1, lo, b, h => by
    have h0 := h 0 (by omega)
    rw [Nat.add_zero] at h0
    rw [fol, h0]
    apply fol_id n k
    intro r hr
    have := h (r + 1) (by omega)
    rw [show lo + 1 + r = lo + (r + 1) by omega]
    exact this
/-- a beginning that is no better than the best: nothing behind it is -/
theorem fol_prune {n m k a : Nat} {b : BO} (hm : k + m = n) (h : lth (tl col pr bi du ch dr (sq n (a * n ^ m)) k).2.2 (tl col pr bi du ch dr (sq n (a * n ^ m)) k).2.1 b = false) : fol col pr bi du ch dr n (a * n ^ m) (n ^ m) b = b := by
  apply fol_id
  intro r hr
  unfold upd1
  have e : tl col pr bi du ch dr (sq n (a * n ^ m)) k = tl col pr bi du ch dr (sq n (a * n ^ m + r)) k := tl_c col pr bi du ch dr k (fun j hj => (sq_pre hm hr hj).symm)
  have mo := tl_mono col pr bi du ch dr (σ := sq n (a * n ^ m + r)) m k
  rw [hm] at mo
  rw [e] at h
  have : lth (tl col pr bi du ch dr (sq n (a * n ^ m + r)) n).2.2 (tl col pr bi du ch dr (sq n (a * n ^ m + r)) n).2.1 b = false := by
    cases b with
    | none => cases h
    | some q =>
      obtain ⟨l2, o2, w⟩ := q
      have h' := of_decide_eq_false h
      unfold lth
      dsimp only
      apply decide_eq_false
      omega
  rw [this, Bool.and_false]
  rfl
/-- a beginning in which a job comes twice -/
theorem fol_dup {n m k a : Nat} {b : BO} (hm : k + m = n) (h : ¬ injP (sq n (a * n ^ m)) k) : fol col pr bi du ch dr n (a * n ^ m) (n ^ m) b = b := by
  apply fol_id
  intro r hr
  unfold upd1
  have : prm n (a * n ^ m + r) = false := by
    unfold prm
    apply decide_eq_false
    intro z
    apply h
    by_cases n0 : n = 0
    · intro j k' hj; omega
    · have inj := onto_inj (fun k _ => sq_lt (by omega)) z
      intro j k' hj hk' e
      apply inj j k' (by omega) (by omega)
      show sq n (a * n ^ m + r) j = sq n (a * n ^ m + r) k'
      rw [sq_pre hm hr hj, sq_pre hm hr hk']
      exact e
  rw [this, Bool.false_and]
  rfl
end TL
