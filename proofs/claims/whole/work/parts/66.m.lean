/-! ===== how many bits a word has ===== -/
theorem and_dig {k a m b M : Nat} (ha : a < 2 ^ k) (hm : m < 2 ^ k) : (a + 2 ^ k * b) &&& (m + 2 ^ k * M) = (a &&& m) + 2 ^ k * (b &&& M) := by
  have hl : a &&& m < 2 ^ k := Nat.lt_of_le_of_lt Nat.and_le_left ha
  apply Nat.eq_of_testBit_eq
  intro j
  rw [Nat.testBit_and, Nat.add_comm a, Nat.add_comm m, Nat.add_comm (a &&& m), Nat.testBit_two_pow_mul_add _ ha, Nat.testBit_two_pow_mul_add _ hm, Nat.testBit_two_pow_mul_add _ hl]
  split
  · rw [Nat.testBit_and]
  · rw [Nat.testBit_and]
theorem and_mod (x k : Nat) : x &&& (2 ^ k - 1) = x % 2 ^ k := Nat.and_two_pow_sub_one_eq_mod x k
def M5 : Nat → Nat
  | 0 => 0
  | w + 1 => 1 + 4 * M5 w
def M3 : Nat → Nat
  | 0 => 0
  | w + 1 => 3 + 16 * M3 w
def MF : Nat → Nat
  | 0 => 0
  | w + 1 => 15 + 256 * MF w
def pz1 : Nat → Nat → Nat
  | _, 0 => 0
  | n, w + 1 => (n % 2 + n / 2 % 2) + 4 * pz1 (n / 4) w
def pc4 (n : Nat) : Nat := (n % 2 + n / 2 % 2) + (n / 4 % 2 + n / 8 % 2)
def pz2 : Nat → Nat → Nat
  | _, 0 => 0
  | n, w + 1 => pc4 n + 16 * pz2 (n / 16) w
def pz3 : Nat → Nat → Nat
  | _, 0 => 0
  | n, w + 1 => (pc4 n + pc4 (n / 16)) + 256 * pz3 (n / 256) w
theorem pc4_le (n : Nat) : pc4 n ≤ 4 := by unfold pc4; omega
theorem st1 : ∀ (w n : Nat), n < 4 ^ w → (n / 2 &&& M5 w) ≤ n ∧ n - (n / 2 &&& M5 w) = pz1 n w
  | 0, n, h => by
    have : n = 0 := by have : 4 ^ 0 = 1 := rfl; omega
    subst this
    exact ⟨Nat.le_refl _, rfl⟩
  | w + 1, n, h => by
    have h4 : n / 4 < 4 ^ w := by rw [Nat.pow_succ] at h; omega
    obtain ⟨i1, i2⟩ := st1 w (n / 4) h4
    have e : n / 2 &&& M5 (w + 1) = n / 2 % 2 + 4 * (n / 4 / 2 &&& M5 w) := by
      have a := and_dig (k := 2) (a := n / 2 % 4) (m := 1) (b := n / 4 / 2) (M := M5 w) (by omega) (by omega)
      have e1 : n / 2 % 4 + 2 ^ 2 * (n / 4 / 2) = n / 2 := by omega
      have e2 : n / 2 % 4 &&& 1 = n / 2 % 2 := by
        have := and_mod (n / 2 % 4) 1
        have : n / 2 % 4 &&& 1 = n / 2 % 4 % 2 := this
        omega
      rw [e1, e2] at a
      exact a
    rw [e, pz1]
    constructor
    · omega
    · omega
theorem st2 : ∀ (w n : Nat), (pz1 n (2 * w) &&& M3 w) + (pz1 n (2 * w) / 4 &&& M3 w) = pz2 n w
  | 0, n => by
    show (0 &&& 0) + (0 / 4 &&& 0) = 0
    rfl
  | w + 1, n => by
    have ih := st2 w (n / 16)
    have e0 : pz1 n (2 * (w + 1)) = (n % 2 + n / 2 % 2) + 4 * ((n / 4 % 2 + n / 4 / 2 % 2) + 4 * pz1 (n / 4 / 4) (2 * w)) := rfl
    have e16 : n / 4 / 4 = n / 16 := by omega
    have e8 : n / 4 / 2 = n / 8 := by omega
    rw [e16, e8] at e0
    rw [pz2, ← ih]
    generalize pz1 (n / 16) (2 * w) = t at *
    have a1 := and_dig (k := 4) (a := (n % 2 + n / 2 % 2) + 4 * (n / 4 % 2 + n / 8 % 2)) (m := 3) (b := t) (M := M3 w) (by omega) (by omega)
    have a2 := and_dig (k := 4) (a := (n / 4 % 2 + n / 8 % 2) + 4 * (t % 4)) (m := 3) (b := t / 4) (M := M3 w) (by omega) (by omega)
    have q1 : (n % 2 + n / 2 % 2) + 4 * (n / 4 % 2 + n / 8 % 2) + 2 ^ 4 * t = pz1 n (2 * (w + 1)) := by rw [e0]; omega
    have q2 : (n / 4 % 2 + n / 8 % 2) + 4 * (t % 4) + 2 ^ 4 * (t / 4) = pz1 n (2 * (w + 1)) / 4 := by rw [e0]; omega
    have m1 : ((n % 2 + n / 2 % 2) + 4 * (n / 4 % 2 + n / 8 % 2)) &&& 3 = n % 2 + n / 2 % 2 := by
      have : ((n % 2 + n / 2 % 2) + 4 * (n / 4 % 2 + n / 8 % 2)) &&& 3 = ((n % 2 + n / 2 % 2) + 4 * (n / 4 % 2 + n / 8 % 2)) % 4 := and_mod _ 2
      omega
    have m2 : ((n / 4 % 2 + n / 8 % 2) + 4 * (t % 4)) &&& 3 = n / 4 % 2 + n / 8 % 2 := by
      have : ((n / 4 % 2 + n / 8 % 2) + 4 * (t % 4)) &&& 3 = ((n / 4 % 2 + n / 8 % 2) + 4 * (t % 4)) % 4 := and_mod _ 2
      omega
    rw [q1, m1] at a1
    rw [q2, m2] at a2
    have a1' : pz1 n (2 * (w + 1)) &&& M3 (w + 1) = n % 2 + n / 2 % 2 + 2 ^ 4 * (t &&& M3 w) := a1
    have a2' : pz1 n (2 * (w + 1)) / 4 &&& M3 (w + 1) = n / 4 % 2 + n / 8 % 2 + 2 ^ 4 * (t / 4 &&& M3 w) := a2
    rw [a1', a2']
    unfold pc4
    omega
theorem s2_mod (w n : Nat) : pz2 n w % 16 ≤ 4 := by
  cases w with
  | zero => exact Nat.zero_le _
  | succ w =>
    rw [pz2]
    have := pc4_le n
    omega
theorem st3 : ∀ (w n : Nat), (pz2 n (2 * w) + pz2 n (2 * w) / 16) &&& MF w = pz3 n w
  | 0, n => by
    show (0 + 0 / 16) &&& 0 = 0
    rfl
  | w + 1, n => by
    have ih := st3 w (n / 256)
    have e0 : pz2 n (2 * (w + 1)) = pc4 n + 16 * (pc4 (n / 16) + 16 * pz2 (n / 16 / 16) (2 * w)) := rfl
    have e16 : n / 16 / 16 = n / 256 := by omega
    rw [e16] at e0
    have hm := s2_mod (2 * w) (n / 256)
    rw [pz3, ← ih]
    generalize pz2 (n / 256) (2 * w) = t at *
    have p1 := pc4_le n
    have p2 := pc4_le (n / 16)
    have a1 := and_dig (k := 8) (a := (pc4 n + pc4 (n / 16)) + 16 * (pc4 (n / 16) + t % 16)) (m := 15) (b := t + t / 16) (M := MF w) (by omega) (by omega)
    have q1 : (pc4 n + pc4 (n / 16)) + 16 * (pc4 (n / 16) + t % 16) + 2 ^ 8 * (t + t / 16) = pz2 n (2 * (w + 1)) + pz2 n (2 * (w + 1)) / 16 := by rw [e0]; omega
    have m1 : ((pc4 n + pc4 (n / 16)) + 16 * (pc4 (n / 16) + t % 16)) &&& 15 = pc4 n + pc4 (n / 16) := by
      have : ((pc4 n + pc4 (n / 16)) + 16 * (pc4 (n / 16) + t % 16)) &&& 15 = ((pc4 n + pc4 (n / 16)) + 16 * (pc4 (n / 16) + t % 16)) % 16 := and_mod _ 4
      omega
    rw [q1, m1] at a1
    exact a1
theorem andI {a b : Nat} (ha : a < 2 ^ 32) (hb : b < 2 ^ 32) : nI a &&& nI b = nI (a &&& b) := by
  apply Int32.toBitVec_inj.mp
  apply BitVec.eq_of_toNat_eq
  have hab : a &&& b < 2 ^ 32 := Nat.lt_of_le_of_lt Nat.and_le_left ha
  rw [Int32.toBitVec_and, BitVec.toNat_and, pk_tn ha, pk_tn hb, pk_tn hab]
def bcN (n : Nat) : Nat := pc4 n + pc4 (n / 16) + (pc4 (n / 256) + pc4 (n / 256 / 16)) + (pc4 (n / 256 / 256) + pc4 (n / 256 / 256 / 16)) + (pc4 (n / 256 / 256 / 256) + pc4 (n / 256 / 256 / 256 / 16))
def g1 (x : Int32) : Int32 := x - (((x).toUInt32 >>> (((1 : Int32)).toUInt32 &&& Int32.toUInt32 31)).toInt32 &&& (Int32.ofNat 1431655765))
def g2 (x : Int32) : Int32 := (x &&& (Int32.ofNat 858993459)) + (((x).toUInt32 >>> (((2 : Int32)).toUInt32 &&& Int32.toUInt32 31)).toInt32 &&& (Int32.ofNat 858993459))
def g3 (x : Int32) : Int32 := (x + ((x).toUInt32 >>> (((4 : Int32)).toUInt32 &&& Int32.toUInt32 31)).toInt32) &&& (Int32.ofNat 252645135)
def g4 (x : Int32) : Int32 := x + ((x).toUInt32 >>> (((8 : Int32)).toUInt32 &&& Int32.toUInt32 31)).toInt32
def g5 (x : Int32) : Int32 := x + ((x).toUInt32 >>> (((16 : Int32)).toUInt32 &&& Int32.toUInt32 31)).toInt32
theorem s1_lt : ∀ (w n : Nat), pz1 n w < 4 ^ w
  | 0, n => by show 0 < 4 ^ 0; decide
  | w + 1, n => by
    have := s1_lt w (n / 4)
    rw [pz1, Nat.pow_succ]
    omega
theorem s2_lt : ∀ (w n : Nat), pz2 n w < 16 ^ w
  | 0, n => by show 0 < 16 ^ 0; decide
  | w + 1, n => by
    have := s2_lt w (n / 16)
    have := pc4_le n
    rw [pz2, Nat.pow_succ]
    omega
theorem bc_ar {a b c d z : Nat} (ha : a ≤ 8) (hb : b ≤ 8) (hc : c ≤ 8) (hd : d ≤ 8) (hz : z = a + 256 * (b + 256 * (c + 256 * (d + 256 * 0)))) : (z + z / 256 + (z + z / 256) / 65536) % 64 = a + b + c + d := by
  have h1 : z / 256 = b + 256 * (c + 256 * d) := by omega
  have h2 : z + z / 256 = (a + b) + 256 * (b + c) + 65536 * ((c + d) + 256 * d) := by omega
  have h3 : (z + z / 256) / 65536 = (c + d) + 256 * d := by omega
  rw [h3, h2]
  omega
theorem bc_eq {u : Nat} {I : pm_II} {J : pm_JJ} {n : Nat} (hn : n < 2 ^ 32) : F_Ji_bitCount u (nI n) I J = some (nI (bcN n), I, J) := by
  have h0 : F_Ji_bitCount u (nI n) I J = some (g5 (g4 (g3 (g2 (g1 (nI n))))) &&& (63 : Int32), I, J) := rfl
  rw [h0]
  have hn4 : n < 4 ^ 16 := by
    have : (4 : Nat) ^ 16 = 2 ^ 32 := by decide
    omega
  obtain ⟨b1, b2⟩ := st1 16 n hn4
  have l1 : pz1 n 16 < 2 ^ 32 := by
    have h1 := s1_lt 16 n
    have h : (4 : Nat) ^ 16 = 2 ^ 32 := by decide
    omega
  have l2 : pz2 n 8 < 2 ^ 32 := by
    have h1 := s2_lt 8 n
    have h : (16 : Nat) ^ 8 = 2 ^ 32 := by decide
    omega
  have m5 : M5 16 = 1431655765 := by decide
  have m3 : M3 8 = 858993459 := by decide
  have mf : MF 4 = 252645135 := by decide
  have e1 : g1 (nI n) = nI (pz1 n 16) := by
    unfold g1
    rw [pk_ushrN hn 1 1 (by decide), ofN, andI (by omega) (by decide)]
    have : n / 2 ^ 1 = n / 2 := rfl
    rw [this, ← m5, pk_sub b1, b2]
  have e2 : g2 (nI (pz1 n 16)) = nI (pz2 n 8) := by
    unfold g2
    rw [pk_ushrN l1 2 2 (by decide), ofN, andI l1 (by decide), andI (by omega) (by decide), nI_add]
    have : pz1 n 16 / 2 ^ 2 = pz1 n 16 / 4 := rfl
    rw [this, ← m3]
    have := st2 8 n
    rw [this]
  have hs2 : pz2 n 8 + pz2 n 8 / 16 < 2 ^ 32 := by
    have e8 : pz2 n 8 = pc4 n + 16 * pz2 (n / 16) 7 := rfl
    have h7 : pz2 (n / 16) 7 = pc4 (n / 16) + 16 * pz2 (n / 16 / 16) 6 := rfl
    have : pz2 n 8 ≤ 4 * 286331153 := by
      have q : ∀ (w m : Nat), pz2 m w ≤ 4 * ((16 ^ w - 1) / 15) := by
        intro w
        induction w with
        | zero => intro m; exact Nat.le_refl _
        | succ w ih =>
          intro m
          have := ih (m / 16)
          have p := pc4_le m
          have hp : 0 < 16 ^ w := Nat.pow_pos (by omega)
          rw [pz2, Nat.pow_succ]
          omega
      exact q 8 n
    omega
  have e3 : g3 (nI (pz2 n 8)) = nI (pz3 n 4) := by
    unfold g3
    rw [pk_ushrN l2 4 4 (by decide), nI_add, ofN, andI hs2 (by decide)]
    have : pz2 n 8 / 2 ^ 4 = pz2 n 8 / 16 := rfl
    rw [this, ← mf]
    have := st3 4 n
    rw [this]
  have es : pz3 n 4 = (pc4 n + pc4 (n / 16)) + 256 * ((pc4 (n / 256) + pc4 (n / 256 / 16)) + 256 * ((pc4 (n / 256 / 256) + pc4 (n / 256 / 256 / 16)) + 256 * ((pc4 (n / 256 / 256 / 256) + pc4 (n / 256 / 256 / 256 / 16)) + 256 * 0))) := rfl
  have p1 := pc4_le n
  have p2 := pc4_le (n / 16)
  have p3 := pc4_le (n / 256)
  have p4 := pc4_le (n / 256 / 16)
  have p5 := pc4_le (n / 256 / 256)
  have p6 := pc4_le (n / 256 / 256 / 16)
  have p7 := pc4_le (n / 256 / 256 / 256)
  have p8 := pc4_le (n / 256 / 256 / 256 / 16)
  have e4 : g4 (nI (pz3 n 4)) = nI (pz3 n 4 + pz3 n 4 / 256) := by
    unfold g4
    rw [pk_ushrN (by omega) 8 8 (by decide), nI_add]
  have e5 : g5 (nI (pz3 n 4 + pz3 n 4 / 256)) = nI (pz3 n 4 + pz3 n 4 / 256 + (pz3 n 4 + pz3 n 4 / 256) / 65536) := by
    unfold g5
    rw [pk_ushrN (by omega) 16 16 (by decide), nI_add]
  rw [e1, e2, e3, e4, e5, pk_andN (by omega) 6 (by decide)]
  have h6 := bc_ar (show pc4 n + pc4 (n / 16) ≤ 8 by omega) (show pc4 (n / 256) + pc4 (n / 256 / 16) ≤ 8 by omega) (show pc4 (n / 256 / 256) + pc4 (n / 256 / 256 / 16) ≤ 8 by omega) (show pc4 (n / 256 / 256 / 256) + pc4 (n / 256 / 256 / 256 / 16) ≤ 8 by omega) es
  rw [show (2 : Nat) ^ 6 = 64 from rfl, h6]
  rfl
theorem tb_n (n i : Nat) : (n.testBit i).toNat = n / 2 ^ i % 2 := by
  rw [Nat.testBit_eq_decide_div_mod_eq]
  have := Nat.mod_two_eq_zero_or_one (n / 2 ^ i)
  rcases this with h | h <;> simp [h]
theorem bcN_cnt (n : Nat) : bcN n = cnt n.testBit 32 := by
  simp only [cnt, tb_n]
  unfold bcN pc4
  simp only [Nat.div_div_eq_div_mul, Nat.reduceMul, Nat.reducePow]
  omega
