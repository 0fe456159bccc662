/-! ===== ink: a floor of a third ===== -/
theorem bm32 {v : Int} (h1 : -2147483648 ≤ v) (h2 : v < 2147483648) : v.bmod (2 ^ 32) = v := Int.bmod_eq_of_le (by omega) (by omega)
theorem bm64 {v : Int} (h1 : -9223372036854775808 ≤ v) (h2 : v < 9223372036854775808) : v.bmod (2 ^ 64) = v := Int.bmod_eq_of_le (by omega) (by omega)
theorem xs32 {x y : Int32} : (0 ≤ (x ^^^ y)) ↔ (decide (x.toInt < 0) = decide (y.toInt < 0)) := by
  rw [Int32.le_iff_toInt_le]
  have h0 : (0 : Int32).toInt = 0 := rfl
  rw [h0]
  have e1 : (x ^^^ y).toBitVec.msb = (x.toBitVec.msb ^^ y.toBitVec.msb) := by
    rw [Int32.toBitVec_xor, BitVec.msb_xor]
  rw [BitVec.msb_eq_toInt, BitVec.msb_eq_toInt, BitVec.msb_eq_toInt] at e1
  show (0 : Int) ≤ (x ^^^ y).toBitVec.toInt ↔ decide (x.toBitVec.toInt < 0) = decide (y.toBitVec.toInt < 0)
  by_cases c : (x ^^^ y).toBitVec.toInt < 0
  · rw [decide_eq_true c] at e1
    constructor
    · intro h; omega
    · intro h; rw [h] at e1; simp at e1
  · rw [decide_eq_false c] at e1
    constructor
    · intro _
      cases h1 : decide (x.toBitVec.toInt < 0) <;> cases h2 : decide (y.toBitVec.toInt < 0) <;> rw [h1, h2] at e1 <;> simp_all
    · intro _; omega
theorem xs64 {x y : Int64} : (0 ≤ (x ^^^ y)) ↔ (decide (x.toInt < 0) = decide (y.toInt < 0)) := by
  rw [Int64.le_iff_toInt_le]
  have h0 : (0 : Int64).toInt = 0 := rfl
  rw [h0]
  have e1 : (x ^^^ y).toBitVec.msb = (x.toBitVec.msb ^^ y.toBitVec.msb) := by
    rw [Int64.toBitVec_xor, BitVec.msb_xor]
  rw [BitVec.msb_eq_toInt, BitVec.msb_eq_toInt, BitVec.msb_eq_toInt] at e1
  show (0 : Int) ≤ (x ^^^ y).toBitVec.toInt ↔ decide (x.toBitVec.toInt < 0) = decide (y.toBitVec.toInt < 0)
  by_cases c : (x ^^^ y).toBitVec.toInt < 0
  · rw [decide_eq_true c] at e1
    constructor
    · intro h; omega
    · intro h; rw [h] at e1; simp at e1
  · rw [decide_eq_false c] at e1
    constructor
    · intro _
      cases h1 : decide (x.toBitVec.toInt < 0) <;> cases h2 : decide (y.toBitVec.toInt < 0) <;> rw [h1, h2] at e1 <;> simp_all
    · intro _; omega
section Ink
variable {u : Nat} {I : pm_II} {J : pm_JJ}
theorem td3 (v : Int) : v.tdiv 3 = if 0 ≤ v then v / 3 else -(-v / 3) := by
  by_cases c : 0 ≤ v
  · rw [if_pos c, Int.tdiv_eq_ediv_of_nonneg c]
  · rw [if_neg c]
    obtain ⟨w, rfl⟩ : ∃ w : Int, v = -w := ⟨-v, by omega⟩
    rw [Int.neg_tdiv, Int.tdiv_eq_ediv_of_nonneg (by omega), Int.neg_neg]
theorem fd32 {a c : Nat} (ha : a < 2 ^ 29) (hc : c < 2 ^ 29) : F_Jm_floorDiv_II u (nI a - nI c) (3 : Int32) I J = some (nI ((a + 2 * c) / 3) - nI c, I, J) := by
  have hx : (nI a - nI c).toInt = (a : Int) - c := pk_sub_toInt (by omega) (by omega)
  have hy : (nI ((a + 2 * c) / 3) - nI c).toInt = ((a + 2 * c) / 3 : Nat) - (c : Int) := pk_sub_toInt (by omega) (by omega)
  have h3 : (3 : Int32).toInt = 3 := rfl
  have hd : ((nI a - nI c) / 3).toInt = ((a : Int) - c).tdiv 3 := by
    rw [Int32.toInt_div, hx, h3]
    have : -536870912 ≤ ((a : Int) - c).tdiv 3 ∧ ((a : Int) - c).tdiv 3 < 536870912 := by rw [td3]; split <;> omega
    exact bm32 (by omega) (by omega)
  have hm : ((nI a - nI c) / 3 * 3).toInt = ((a : Int) - c).tdiv 3 * 3 := by
    rw [Int32.toInt_mul, hd, h3]
    have : -536870912 ≤ ((a : Int) - c).tdiv 3 * 3 ∧ ((a : Int) - c).tdiv 3 * 3 < 536870912 := by rw [td3]; split <;> omega
    exact bm32 (by omega) (by omega)
  have hs : ((nI a - nI c) / 3 - 1).toInt = ((a : Int) - c).tdiv 3 - 1 := by
    rw [Int32.toInt_sub, hd]
    have h1 : (1 : Int32).toInt = 1 := rfl
    rw [h1]
    have : -536870912 ≤ ((a : Int) - c).tdiv 3 ∧ ((a : Int) - c).tdiv 3 < 536870912 := by rw [td3]; split <;> omega
    exact bm32 (by omega) (by omega)
  unfold F_Jm_floorDiv_II
  rw [if_pos (by decide)]
  simp only [xs32, hx, h3]
  by_cases g : c ≤ a
  · rw [if_pos (by rw [decide_eq_false (by omega)]; rfl)]
    congr 2
    apply Int32.toInt_inj.mp
    rw [hd, hy, td3, if_pos (by omega)]
    omega
  · rw [if_neg (by rw [decide_eq_true (by omega)]; decide)]
    by_cases q : (nI a - nI c) / 3 * 3 = nI a - nI c
    · rw [if_pos q]
      congr 2
      apply Int32.toInt_inj.mp
      have q2 := congrArg Int32.toInt q
      rw [hm, hx] at q2
      rw [hd, hy]
      omega
    · rw [if_neg q]
      congr 2
      apply Int32.toInt_inj.mp
      have q2 : ¬ ((a : Int) - c).tdiv 3 * 3 = (a : Int) - c := by
        intro z; apply q
        apply Int32.toInt_inj.mp
        rw [hm, hx, z]
      rw [hs, hy]
      rw [td3, if_neg (by omega)] at q2
      rw [td3, if_neg (by omega)]
      omega
theorem lsub_toInt {a b : Nat} (ha : a < 2 ^ 30) (hb : b < 2 ^ 30) : (lN a - lN b).toInt = (a : Int) - b := by
  rw [Int64.toInt_sub, lN_toInt (by omega), lN_toInt (by omega)]
  exact bm64 (by omega) (by omega)
theorem fd64 {a c : Nat} (ha : a < 2 ^ 29) (hc : c < 2 ^ 29) : F_Jm_floorDiv_JJ u (lN a - lN c) (Int64.ofNat 3) I J = some (lN ((a + 2 * c) / 3) - lN c, I, J) := by
  have hx : (lN a - lN c).toInt = (a : Int) - c := lsub_toInt (by omega) (by omega)
  have hy : (lN ((a + 2 * c) / 3) - lN c).toInt = ((a + 2 * c) / 3 : Nat) - (c : Int) := lsub_toInt (by omega) (by omega)
  have h3 : (Int64.ofNat 3).toInt = 3 := rfl
  have h1 : (Int64.ofNat 1).toInt = 1 := rfl
  have hd : ((lN a - lN c) / Int64.ofNat 3).toInt = ((a : Int) - c).tdiv 3 := by
    rw [Int64.toInt_div, hx, h3]
    have : -536870912 ≤ ((a : Int) - c).tdiv 3 ∧ ((a : Int) - c).tdiv 3 < 536870912 := by rw [td3]; split <;> omega
    exact bm64 (by omega) (by omega)
  have hm : ((lN a - lN c) / Int64.ofNat 3 * Int64.ofNat 3).toInt = ((a : Int) - c).tdiv 3 * 3 := by
    rw [Int64.toInt_mul, hd, h3]
    have : -536870912 ≤ ((a : Int) - c).tdiv 3 * 3 ∧ ((a : Int) - c).tdiv 3 * 3 < 536870912 := by rw [td3]; split <;> omega
    exact bm64 (by omega) (by omega)
  have hs : ((lN a - lN c) / Int64.ofNat 3 - Int64.ofNat 1).toInt = ((a : Int) - c).tdiv 3 - 1 := by
    rw [Int64.toInt_sub, hd, h1]
    have : -536870912 ≤ ((a : Int) - c).tdiv 3 ∧ ((a : Int) - c).tdiv 3 < 536870912 := by rw [td3]; split <;> omega
    exact bm64 (by omega) (by omega)
  unfold F_Jm_floorDiv_JJ
  rw [if_pos (by decide)]
  have z0 : Int64.ofNat 0 = 0 := rfl
  simp only [lg_cmp_ge, lg_cmp_eq, z0, xs64, hx, h3]
  by_cases g : c ≤ a
  · rw [if_pos (by rw [decide_eq_false (by omega)]; rfl)]
    congr 2
    apply Int64.toInt_inj.mp
    rw [hd, hy, td3, if_pos (by omega)]
    omega
  · rw [if_neg (by rw [decide_eq_true (by omega)]; decide)]
    by_cases q : (lN a - lN c) / Int64.ofNat 3 * Int64.ofNat 3 = lN a - lN c
    · rw [if_pos q]
      congr 2
      apply Int64.toInt_inj.mp
      have q2 := congrArg Int64.toInt q
      rw [hm, hx] at q2
      rw [hd, hy]
      omega
    · rw [if_neg q]
      congr 2
      apply Int64.toInt_inj.mp
      have q2 : ¬ ((a : Int) - c).tdiv 3 * 3 = (a : Int) - c := by
        intro z; apply q
        apply Int64.toInt_inj.mp
        rw [hm, hx, z]
      rw [hs, hy]
      rw [td3, if_neg (by omega)] at q2
      rw [td3, if_neg (by omega)]
      omega
end Ink
