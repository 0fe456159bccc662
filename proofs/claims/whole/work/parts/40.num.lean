/-! ===== NUMBERS ===== -/
def dig (c : Int32) : Prop := 48 ≤ c ∧ c ≤ 57
theorem dig_dec (c : Int32) : dig c ∨ ¬ dig c := Classical.em _
def dgt (b : Nat → Int32) (j : Nat) : Nat := (b j).toInt.toNat - 48
theorem dig_nI {b : Nat → Int32} {j : Nat} (h : dig (b j)) : b j = nI (48 + dgt b j) ∧ dgt b j < 10 := by
  have h1 := Int32.le_iff_toInt_le.mp h.1
  have h2 := Int32.le_iff_toInt_le.mp h.2
  have e1 : ((48 : Int32)).toInt = 48 := by decide
  have e2 : ((57 : Int32)).toInt = 57 := by decide
  rw [e1] at h1
  rw [e2] at h2
  have hd : dgt b j = (b j).toInt.toNat - 48 := rfl
  refine ⟨Int32.toInt_inj.mp ?_, by omega⟩
  rw [nI_toInt (by omega)]
  omega
def r_vn (b : Nat → Int32) (p : Nat) : Nat → Nat
  | 0 => 0
  | d + 1 => r_vn b p d * 10 + dgt b (p + d)
theorem r_vn_lt {b : Nat → Int32} {p : Nat} : ∀ d, (∀ j, j < d → dig (b (p + j))) → r_vn b p d < 10 ^ d
  | 0, _ => Nat.lt_of_lt_of_eq Nat.zero_lt_one rfl
  | d + 1, h => by
    have ih := r_vn_lt d (fun j hj => h j (by omega))
    have := (dig_nI (h d (by omega))).2
    show r_vn b p d * 10 + dgt b (p + d) < 10 ^ (d + 1)
    rw [Nat.pow_succ]
    omega
/-- how many digits stand there -/
def r_dl (b : Nat → Int32) : Nat → Nat → Nat
  | 0, _ => 0
  | m + 1, p => if (48 ≤ b p ∧ b p ≤ 57) then r_dl b m (p + 1) + 1 else 0
theorem r_dl_le (b : Nat → Int32) : ∀ m p, r_dl b m p ≤ m
  | 0, _ => Nat.le_refl _
  | m + 1, p => by
    unfold r_dl
    split
    · have := r_dl_le b m (p + 1); omega
    · omega
theorem r_dl_dig (b : Nat → Int32) : ∀ m p j, j < r_dl b m p → dig (b (p + j))
  | 0, p, j, h => absurd h (Nat.not_lt_zero _)
  | m + 1, p, j, h => by
    unfold r_dl at h
    split at h
    · rename_i hc
      cases j with
      | zero => exact hc
      | succ j =>
        have := r_dl_dig b m (p + 1) j (by omega)
        rw [show p + (j + 1) = p + 1 + j from by omega]; exact this
    · omega
theorem r_dl_end (b : Nat → Int32) : ∀ m p, r_dl b m p < m → ¬ dig (b (p + r_dl b m p))
  | 0, p, h => absurd h (Nat.not_lt_zero _)
  | m + 1, p, h => by
    unfold r_dl at h ⊢
    split
    · rename_i hc
      rw [if_pos hc] at h
      have := r_dl_end b m (p + 1) (by omega)
      rw [show p + (r_dl b m (p + 1) + 1) = p + 1 + r_dl b m (p + 1) from by omega]; exact this
    · rename_i hc
      exact hc
theorem r_dl_next {b : Nat → Int32} {n p d : Nat} (hp : p ≤ n) (hd : d ≤ r_dl b (n - p) p) : (48 ≤ q_nx b n (p + d) none ∧ q_nx b n (p + d) none ≤ 57) ↔ d < r_dl b (n - p) p := by
  have hle := r_dl_le b (n - p) p
  unfold q_nx
  by_cases h : d < r_dl b (n - p) p
  · rw [if_pos ⟨rfl, by omega⟩]
    exact ⟨fun _ => h, fun _ => r_dl_dig b _ _ _ h⟩
  · have hd2 : d = r_dl b (n - p) p := by omega
    refine ⟨fun z => ?_, fun z => absurd z h⟩
    by_cases h2 : p + d < n
    · rw [if_pos ⟨rfl, h2⟩] at z
      rw [hd2] at z
      exact absurd z (r_dl_end b _ _ (by omega))
    · rw [if_neg (fun q => h2 q.2)] at z
      exact absurd z.1 (by decide)
theorem r_vn_0 {b : Nat → Int32} {p : Nat} (h : dig (b p)) : ∀ d, r_vn b p (d + 1) = 0 → b p = 48
  | 0, e => by
    have h1 := dig_nI h
    have h2 : 0 * 10 + dgt b (p + 0) = 0 := e
    rw [Nat.add_zero] at h2
    have h3 : dgt b p = 0 := by omega
    rw [h1.1, h3]; rfl
  | d + 1, e => by
    have h2 : r_vn b p (d + 1) * 10 + dgt b (p + (d + 1)) = 0 := e
    exact r_vn_0 h d (by omega)
theorem r_vn_1 {b : Nat → Int32} {p : Nat} (h : b p = 48) : r_vn b p 1 = 0 := by
  show 0 * 10 + dgt b (p + 0) = 0
  unfold dgt
  rw [Nat.add_zero, h]
  rfl
theorem nI_step {v t : Nat} : nI v * 10 + nI (48 + t) - 48 = nI (v * 10 + t) := by
  rw [nl_48, nl_10, pk_mul, nI_add, pk_sub (by omega)]
  congr 1
  omega
theorem nI_step2 {v t : Nat} : 10 * nI v + nI (48 + t) - 48 = nI (v * 10 + t) := by
  rw [nl_48, nl_10, pk_mul, nI_add, pk_sub (by omega)]
  congr 1
  omega
def q_dd (b : Nat → Int32) (n p : Nat) (e : Option Nat) : Nat := match e with
  | some _ => 0
  | none => if r_dl b (n - p) p = 0 then 0 else if b p = 48 then 1 else min (r_dl b (n - p) p) 6
def q_nmV (b : Nat → Int32) (n p : Nat) (e : Option Nat) : Nat := r_vn b p (q_dd b n p e)
def q_nmE (b : Nat → Int32) (n p : Nat) (e : Option Nat) (lo hi : Int32) : Option Nat := match e with
  | some x => some x
  | none => if q_dd b n p none = 0 then some p else if q_dd b n p none < r_dl b (n - p) p then some (p + q_dd b n p none) else if lo ≤ nI (q_nmV b n p none) ∧ nI (q_nmV b n p none) ≤ hi then none else some p
theorem q_dd_le {b : Nat → Int32} {n p : Nat} : q_dd b n p none ≤ r_dl b (n - p) p ∧ q_dd b n p none ≤ 6 := by
  unfold q_dd
  dsimp only
  by_cases h : r_dl b (n - p) p = 0
  · rw [if_pos h]; omega
  · rw [if_neg h]
    by_cases h2 : b p = 48
    · rw [if_pos h2]; omega
    · rw [if_neg h2]; omega
theorem q_dd_e {b : Nat → Int32} {n p : Nat} {e : Option Nat} : q_dd b n p e ≤ r_dl b (n - p) p ∧ q_dd b n p e ≤ 6 := by
  cases e with
  | none => exact q_dd_le
  | some x => exact ⟨Nat.zero_le _, Nat.zero_le _⟩
theorem q_nmV_lt {b : Nat → Int32} {n p : Nat} {e : Option Nat} : q_nmV b n p e < 1000000 := by
  have h := q_dd_e (b := b) (n := n) (p := p) (e := e)
  have h1 := r_vn_lt (b := b) (p := p) (q_dd b n p e) (fun j hj => r_dl_dig b (n - p) p j (by omega))
  have h2 : 10 ^ (q_dd b n p e) ≤ 10 ^ 6 := Nat.pow_le_pow_right (by decide) h.2
  have e6 : (10 : Nat) ^ 6 = 1000000 := by decide
  unfold q_nmV
  omega
theorem Ok_nm {b : Nat → Int32} {n p : Nat} {e : Option Nat} {lo hi : Int32} (ho : Ok n p e) : Ok n (p + q_dd b n p e) (q_nmE b n p e lo hi) := by
  have hl := r_dl_le b (n - p) p
  have hp := ho.1
  refine ⟨?_, ?_⟩
  · have := (q_dd_e (b := b) (n := n) (p := p) (e := e)).1; omega
  · cases e with
    | some x => exact ho.2
    | none =>
      intro x hx
      unfold q_nmE at hx
      dsimp only at hx
      have h2 := q_dd_le (b := b) (n := n) (p := p)
      by_cases h : q_dd b n p none = 0
      · rw [if_pos h] at hx; cases hx; omega
      · rw [if_neg h] at hx
        by_cases h3 : q_dd b n p none < r_dl b (n - p) p
        · rw [if_pos h3] at hx; cases hx; omega
        · rw [if_neg h3] at hx
          split at hx
          · cases hx
          · cases hx; omega
/-- within the digits: what the loops need -/
theorem dd_step {b : Nat → Int32} {n p d : Nat} (hd : d < q_dd b n p none) : d < r_dl b (n - p) p ∧ d < 6 ∧ (0 < d → ¬ r_vn b p d = 0) ∧ (0 < d → ¬ b p = 48) := by
  have h2 := q_dd_le (b := b) (n := n) (p := p)
  have hb : 0 < d → ¬ b p = 48 := by
    intro h0 q
    have hr : ¬ r_dl b (n - p) p = 0 := by omega
    unfold q_dd at hd
    dsimp only at hd
    rw [if_neg hr, if_pos q] at hd
    omega
  refine ⟨by omega, by omega, ?_, hb⟩
  intro h0 q
  obtain ⟨c, rfl⟩ : ∃ c, d = c + 1 := ⟨d - 1, by omega⟩
  exact hb h0 (r_vn_0 (by have := r_dl_dig b (n - p) p 0 (by omega); rwa [Nat.add_zero] at this) c q)
/-- at the last digit that is taken -/
theorem dd_end {b : Nat → Int32} {n p : Nat} (h0 : 0 < q_dd b n p none) (h6 : q_dd b n p none < 6) (hl : q_dd b n p none < r_dl b (n - p) p) : q_dd b n p none = 1 ∧ b p = 48 := by
  unfold q_dd at h0 h6 hl ⊢
  dsimp only at h0 h6 hl ⊢
  by_cases h : r_dl b (n - p) p = 0
  · rw [if_pos h] at h0; omega
  · rw [if_neg h] at h0 h6 hl ⊢
    by_cases h2 : b p = 48
    · rw [if_pos h2] at hl ⊢; exact ⟨rfl, h2⟩
    · rw [if_neg h2] at h6 hl; omega
section NumClass
variable {u : Nat} {I : pm_II} {J : pm_JJ} {b : Nat → Int32} {n p f : Nat} {e : Option Nat} {lo hi : Int32}
theorem t_num101 {v : Nat} (ho : Ok n p e) (hb : Tb b n I) : F_Ta_readNumber_101 u lo hi (nI v) (tc I p f e) J = some (nI v, tc I p f (if lo ≤ nI v ∧ nI v ≤ hi then e else q_bl e f), J) := by
  unfold F_Ta_readNumber_101
  have h3 : (tc I p f e) 17 3 = nI f := rfl
  rw [h3, t_blame ho hb, bd_s]
  by_cases h1 : nI v < lo
  · rw [if_pos h1, if_neg (fun q => absurd h1 (Int32.not_lt.mpr q.1))]; rfl
  · rw [if_neg h1]
    by_cases h2 : nI v ≤ hi
    · rw [if_pos h2, if_pos ⟨Int32.not_lt.mp h1, h2⟩]; rfl
    · rw [if_neg h2, if_neg (fun q => h2 q.2)]; rfl
theorem t_num78 (hp : p ≤ n) (hb : Tb b n I) : F_Ta_readNumber_78 u lo hi (nI (q_nmV b n p none)) (nI (q_dd b n p none)) (tc I (p + q_dd b n p none) p none) J = some (nI (q_nmV b n p none), tc I (p + q_dd b n p none) p (q_nmE b n p none lo hi), J) := by
  have h2 := q_dd_le (b := b) (n := n) (p := p)
  have hl := r_dl_le b (n - p) p
  have hn := hb.2.2
  have ho : Ok n (p + q_dd b n p none) none := ⟨by omega, fun x hx => by cases hx⟩
  have hx := r_dl_next (b := b) hp h2.1
  have h17 : (tc I (p + q_dd b n p none) p none) 17 2 = nI (p + q_dd b n p none) := rfl
  unfold F_Ta_readNumber_78 q_nmE
  dsimp only
  rw [h17, t_blame ho hb, bd_s, t_next ho hb, bd_s, t_isDigit, bd_s]
  simp only [b2i_0, decide_eq_false_iff_not, hx, i0_iff (show q_dd b n p none < 2 ^ 31 by omega)]
  have hob : ∀ x, x ≤ n → Ok n (p + q_dd b n p none) (some x) := fun x hx => ⟨by omega, fun y hy => by cases hy; exact hx⟩
  by_cases h0 : q_dd b n p none = 0
  · rw [if_pos h0, if_pos h0]
    show F_Ta_readNumber_101 u lo hi _ (tc I _ p (some (p + q_dd b n p none))) J = _
    rw [t_num101 (hob _ (by omega)) hb, h0]
    simp [q_bl]
  · rw [if_neg h0, if_neg h0]
    by_cases h3 : q_dd b n p none < r_dl b (n - p) p
    · rw [if_neg (by simpa using h3), if_pos h3, h17, t_blame ho hb, bd_s]
      show F_Ta_readNumber_101 u lo hi _ (tc I _ p (some (p + q_dd b n p none))) J = _
      rw [t_num101 (hob _ (by omega)) hb]
      simp [q_bl]
    · rw [if_pos h3, if_neg h3, t_num101 ho hb]
      rfl
theorem t_num16 (hp : p ≤ n) (hb : Tb b n I) : ∀ (m N d : Nat), d + m = q_dd b n p none → m < N → F_Ta_readNumber_16 u N lo hi (nI (r_vn b p d)) (nI d) (b2i (decide (0 < d ∧ r_vn b p d = 0))) (tc I (p + d) p none) J = some (nI (q_nmV b n p none), tc I (p + q_dd b n p none) p (q_nmE b n p none lo hi), J) := by
  intro m
  have h2 := q_dd_le (b := b) (n := n) (p := p)
  have hl := r_dl_le b (n - p) p
  have hn := hb.2.2
  induction m with
  | zero =>
    intro N d hd hN
    obtain ⟨N, rfl⟩ : ∃ k, N = k + 1 := ⟨N - 1, by omega⟩
    have hd : d = q_dd b n p none := by omega
    have ho : Ok n (p + d) none := ⟨by omega, fun x hx => by cases hx⟩
    have hx := r_dl_next (b := b) hp (show d ≤ r_dl b (n - p) p by omega)
    have h78 := t_num78 (u := u) (J := J) (lo := lo) (hi := hi) hp hb
    rw [← hd] at h78
    have hv : q_nmV b n p none = r_vn b p d := by rw [hd]; rfl
    rw [hv] at h78 ⊢
    rw [F_Ta_readNumber_16, t_next ho hb, bd_s, t_isDigit, bd_s]
    simp (disch := omega) only [b2i_0, decide_eq_false_iff_not, hx, nl_6, nI_leI]
    rw [h78]
    rw [← hd]
    by_cases c6 : 6 ≤ d
    · rw [if_pos c6]
    · rw [if_neg c6]
      by_cases c1 : 0 < d ∧ r_vn b p d = 0
      · rw [if_pos (fun q => q c1)]
      · rw [if_neg (fun q => q c1)]
        by_cases c2 : d < r_dl b (n - p) p
        · exfalso
          by_cases c0 : d = 0
          · have : q_dd b n p none = 0 := by omega
            unfold q_dd at this
            dsimp only at this
            rw [if_neg (by omega)] at this
            split at this <;> omega
          · have := dd_end (b := b) (n := n) (p := p) (by omega) (by omega) (by omega)
            apply c1
            refine ⟨by omega, ?_⟩
            rw [hd, this.1]
            exact r_vn_1 this.2
        · rw [if_pos c2]
  | succ m ih =>
    intro N d hd hN
    obtain ⟨N, rfl⟩ : ∃ k, N = k + 1 := ⟨N - 1, by omega⟩
    have hs := dd_step (b := b) (n := n) (p := p) (d := d) (by omega)
    have ho : Ok n (p + d) none := ⟨by omega, fun x hx => by cases hx⟩
    have hx := r_dl_next (b := b) hp (show d ≤ r_dl b (n - p) p by omega)
    have hdn := dig_nI (r_dl_dig b _ _ d hs.1)
    have hq : q_nx b n (p + d) none = nI (48 + dgt b (p + d)) := by
      unfold q_nx
      rw [if_pos ⟨rfl, by omega⟩]; exact hdn.1
    have hv : r_vn b p (d + 1) = r_vn b p d * 10 + dgt b (p + d) := rfl
    have hlt := r_vn_lt (b := b) (p := p) (d + 1) (fun j hj => r_dl_dig b (n - p) p j (by omega))
    have hlt2 : 10 ^ (d + 1) ≤ 10 ^ 6 := Nat.pow_le_pow_right (by decide) (by omega)
    have e6 : (10 : Nat) ^ 6 = 1000000 := by decide
    have h17 : (tc I (p + d) p none) 17 2 = nI (p + d) := rfl
    have := ih N (d + 1) (by omega) (by omega)
    rw [F_Ta_readNumber_16, t_next ho hb, bd_s, t_isDigit, bd_s, t_next ho hb, bd_s, h17, T3_a, nI_1, hq, nI_step, nI_io1, nI_add, ← hv, ← hq]
    simp (disch := omega) only [b2i_0, decide_eq_false_iff_not, hx, nl_6, nI_leI, i0_iff]
    rw [if_neg (by omega), if_neg (by rw [Decidable.not_not]; exact fun q => hs.2.2.1 q.1 q.2), if_neg (by simpa using hs.1)]
    rw [← this]
    by_cases c : r_vn b p (d + 1) = 0
    · rw [if_neg (fun q => q c)]
      simp [c, b2i, Nat.add_assoc]
    · rw [if_pos c]
      simp [c, b2i, Nat.add_assoc]
/-- readNumber -/
theorem t_num (hu : 10 ≤ u) (ho : Ok n p e) (hb : Tb b n I) : F_Ta_readNumber u lo hi (tc I p f e) J = some (nI (q_nmV b n p e), tc I (p + q_dd b n p e) p (q_nmE b n p e lo hi), J) := by
  unfold F_Ta_readNumber
  have h17 : (tc I p f e) 17 2 = nI p := rfl
  rw [h17, T3_f]
  cases e with
  | none =>
    have h2 := q_dd_le (b := b) (n := n) (p := p)
    have := t_num16 (u := u) (J := J) (lo := lo) (hi := hi) ho.1 hb (q_dd b n p none) u 0 (by omega) (by omega)
    exact this
  | some x =>
    obtain ⟨N, hN⟩ : ∃ k, u = k + 1 := ⟨u - 1, by omega⟩
    have e1 : F_Ta_readNumber_16 u u lo hi 0 0 0 (T3 I (nI p) (nI p) (er (some x))) J = F_Ta_readNumber_16 u (N + 1) lo hi 0 0 0 (tc I p p (some x)) J := by rw [← hN]
    rw [e1, F_Ta_readNumber_16, t_next ho hb, bd_s, t_isDigit, bd_s]
    have e2 : q_nx b n p (some x) = -1 := by simp [q_nx]
    rw [e2]
    rw [if_neg (by decide), if_neg (by decide), if_pos (by decide)]
    unfold F_Ta_readNumber_78
    rw [if_pos rfl]
    have h17 : (tc I p p (some x)) 17 2 = nI p := rfl
    rw [h17, t_blame ho hb, bd_s]
    have := t_num101 (u := u) (J := J) (lo := lo) (hi := hi) (f := p) (v := 0) ho hb
    show F_Ta_readNumber_101 u lo hi (nI 0) (tc I p p (some x)) J = _
    rw [this]
    simp [q_bl, q_dd, q_nmV, q_nmE, r_vn]
theorem t_nextNum (hu : 10 ≤ u) (ho : Ok n p e) (hb : Tb b n I) : F_Ta_readNextNumber u lo hi (tc I p f e) J = some (nI (q_nmV b n (q_exP b n p e 32) (q_exE b n p e 32)), tc I (q_exP b n p e 32 + q_dd b n (q_exP b n p e 32) (q_exE b n p e 32)) (q_exP b n p e 32) (q_nmE b n (q_exP b n p e 32) (q_exE b n p e 32) lo hi), J) := by
  unfold F_Ta_readNextNumber
  rw [t_expect ho hb, bd_s, t_num hu (Ok_ex ho) hb, bd_s]
end NumClass
