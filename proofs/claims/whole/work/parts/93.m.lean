/-! ===== mail: a byte of a name ===== -/
theorem by8_c : ∀ i : Fin 32, 8 ≤ i.val → (255#32)[i.val] = false := by decide
theorem by8_c2 : ∀ i : Fin 64, 8 ≤ i.val → (255#64).getLsbD i.val = false := by decide
theorem by8_c3 : ∀ i : Fin 8, (255#64).getLsbD i.val = true := by decide
theorem by8_c4 : ∀ i : Fin 8, (255#32).getLsbD i.val = true := by decide
theorem by8_b (y : BitVec 64) (s : Nat) (hs : s ≤ 56) : ((y >>> s).setWidth 32 &&& 255#32) = ((y.sshiftRight s).setWidth 32 &&& 255#32) := by
  ext i hi
  rw [BitVec.getElem_and, BitVec.getElem_and, BitVec.getElem_setWidth, BitVec.getElem_setWidth, BitVec.getLsbD_ushiftRight]
  by_cases h : i < 8
  · have h2 : s + i < 64 := by omega
    have h3 : i < 64 := by omega
    rw [BitVec.getLsbD_sshiftRight]
    have h4 : decide (64 ≤ i) = false := decide_eq_false (by omega)
    simp [h2, h4]
  · have c1 := by8_c ⟨i, hi⟩ (by omega : 8 ≤ i)
    dsimp only at c1
    rw [c1]
    simp
def byN (v : Int64) (k : Nat) : Int32 := (((v >>> ((((56 : Int32) - ((8 : Int32) * nI k)) : Int32).toInt64 &&& 63)) &&& (Int64.ofNat 255)) : Int64).toInt32
theorem byN_eq (v : Int64) (k : Nat) (hk : k < 8) : (((((v).toUInt64 >>> ((((8 : Int32) * ((7 : Int32) - nI k)) : Int32).toInt64.toUInt64 &&& Int64.toUInt64 63)).toInt64 : Int64).toInt32 &&& (255 : Int32))) = byN v k := by
  have key : ∀ k : Fin 8, (((8 : Int32) * ((7 : Int32) - nI k.val)) : Int32).toInt64.toUInt64 &&& Int64.toUInt64 63 = UInt64.ofNat (56 - 8 * k.val) ∧ ((((56 : Int32) - ((8 : Int32) * nI k.val)) : Int32).toInt64 &&& 63) = Int64.ofNat (56 - 8 * k.val) ∧ (UInt64.ofNat (56 - 8 * k.val)).toBitVec.toNat % 64 = 56 - 8 * k.val ∧ (Int64.ofNat (56 - 8 * k.val)).toBitVec.smod 64 = BitVec.ofNat 64 (56 - 8 * k.val) := by decide +kernel
  obtain ⟨k1, k2, k3, k4⟩ := key ⟨k, hk⟩
  dsimp only at k1 k2 k3 k4
  unfold byN
  rw [k1, k2]
  apply Int32.toBitVec_inj.mp
  have hs : 56 - 8 * k ≤ 56 := by omega
  have := by8_b v.toBitVec (56 - 8 * k) hs
  generalize 56 - 8 * k = s at *
  have e1 : s % 64 = s := Nat.mod_eq_of_lt (by omega)
  have k4' : (BitVec.ofNat 64 s).smod 64#64 = BitVec.ofNat 64 s := k4
  have e2 : ((BitVec.ofNat 64 s).smod 64#64).toNat = s := by
    rw [k4', BitVec.toNat_ofNat]
    exact Nat.mod_eq_of_lt (by omega)
  simp
  rw [e1, e2, BitVec.signExtend_eq_setWidth_of_le _ (by omega), BitVec.signExtend_eq_setWidth_of_le _ (by omega)]
  exact this

section Bytes
variable {u : Nat} {I : pm_II} {J : pm_JJ}
theorem c_byte {i k : Nat} {v : Int64} (hi : i < 120) (hk : k < 8) (hv : J 91 i = v) : F_Ma_byteOf u (nI i) (nI k) I J = some (byN v k, I, J) := by
  unfold F_Ma_byteOf
  rw [vqT hi (by omega), cond_true, nI_clamp (by omega), hv, byN_eq v k hk]
theorem m_byte {k : Nat} {v : Int64} (hk : k < 8) : F_Mo_nameByte u v (nI k) I J = some (byN v k, I, J) := by
  unfold F_Mo_nameByte
  rw [show (8 : Int32) = nI 8 from rfl, if_neg (by rw [nI_leI (by omega) (by omega)]; omega)]
  rfl
/-- the length of a name -/
theorem len_both {i : Nat} {v : Int64} {x1 x2 : Int32} (hi : i < 120) (hv : J 91 i = v) : ∀ (d k N N2 : Nat), k + d = 8 → d < N → d < N2 → ∃ l, l ≤ 8 ∧ F_Ma_lengthOf_2 u N (nI i) (nI k) I J = some (nI l, I, J) ∧ ∀ I1 J1, F_Mo_letter_31 u N2 x1 x2 v (nI k) I1 J1 = F_Mo_letter_54 u x1 x2 v (nI l) I1 J1 := by
  intro d
  induction d with
  | zero =>
    intro k N N2 hk hN hN2
    obtain ⟨N, rfl⟩ : ∃ z, N = z + 1 := ⟨N - 1, by omega⟩
    obtain ⟨N2, rfl⟩ : ∃ z, N2 = z + 1 := ⟨N2 - 1, by omega⟩
    have : k = 8 := by omega
    subst this
    exact ⟨8, by omega, by rw [F_Ma_lengthOf_2, if_pos (by decide)]; rfl, fun I1 J1 => by rw [F_Mo_letter_31, if_pos (by decide)]⟩
  | succ d ih =>
    intro k N N2 hk hN hN2
    obtain ⟨N, rfl⟩ : ∃ z, N = z + 1 := ⟨N - 1, by omega⟩
    obtain ⟨N2, rfl⟩ : ∃ z, N2 = z + 1 := ⟨N2 - 1, by omega⟩
    have c8 : ¬ (8 : Int32) ≤ nI k := by rw [show (8 : Int32) = nI 8 from rfl, nI_leI (by omega) (by omega)]; omega
    by_cases z : byN v k = 0
    · refine ⟨k, by omega, ?_, fun I1 J1 => ?_⟩
      · rw [F_Ma_lengthOf_2, if_neg c8, c_byte hi (by omega) hv, bd_s, if_pos z]; rfl
      · rw [F_Mo_letter_31, if_neg c8, m_byte (by omega), bd_s, if_pos z]
    · obtain ⟨l, h1, h2, h3⟩ := ih (k + 1) N N2 (by omega) (by omega) (by omega)
      refine ⟨l, h1, ?_, fun I1 J1 => ?_⟩
      · rw [F_Ma_lengthOf_2, if_neg c8, c_byte hi (by omega) hv, bd_s, if_neg z, nI_io1, nI_add]; exact h2
      · rw [F_Mo_letter_31, if_neg c8, m_byte (by omega), bd_s, if_neg z, nI_io1, nI_add]; exact h3 I1 J1
end Bytes
theorem cnt_sum2 {G H F : Nat → Bool} : ∀ n, (∀ k, k < n → (F k).toNat = (G k).toNat + (H k).toNat) → cnt F n = cnt G n + cnt H n
  | 0, _ => rfl
  | n + 1, h => by
    rw [cnt, cnt, cnt, cnt_sum2 n (fun k hk => h k (by omega)), h n (by omega)]
    omega
theorem cnt_z {G : Nat → Bool} : ∀ n, (∀ k, k < n → G k = false) → cnt G n = 0
  | 0, _ => rfl
  | n + 1, h => by rw [cnt, cnt_z n (fun k hk => h k (by omega)), h n (by omega)]; rfl
theorem cnt_e {q : Nat} : ∀ n, q < n → cnt (fun p => decide (p = q)) n = 1
  | 0, h => absurd h (Nat.not_lt_zero _)
  | n + 1, h => by
    rw [cnt]
    by_cases c : q = n
    · subst c
      rw [cnt_z q (fun k hk => decide_eq_false (by omega)), decide_eq_true rfl]; rfl
    · rw [cnt_e n (by omega), decide_eq_false (by omega)]; rfl
theorem cnt_perm {f : Nat → Nat} {L : Nat} (hi : injP f L) (hs : ∀ k, k < L → ∃ p, p < L ∧ f p = k) : ∀ m, m ≤ L → cnt (fun p => decide (f p < m)) L = m
  | 0, _ => cnt_z L (fun k hk => decide_eq_false (by omega))
  | m + 1, h => by
    obtain ⟨p0, h1, h2⟩ := hs m (by omega)
    have e : cnt (fun p => decide (f p = m)) L = 1 := by
      rw [← cnt_e (q := p0) L h1]
      refine cnt_c L (fun k hk => ?_)
      by_cases c : k = p0
      · rw [c, h2]; simp
      · rw [decide_eq_false c, decide_eq_false (fun z => c (hi k p0 hk h1 (by rw [z, h2])))]
    rw [cnt_sum2 (G := fun p => decide (f p < m)) (H := fun p => decide (f p = m)) L (fun k hk => ?_), cnt_perm hi hs m (by omega), e]
    by_cases c : f k < m
    · rw [decide_eq_true c, decide_eq_true (by omega), decide_eq_false (by omega)]; rfl
    · by_cases d : f k = m
      · rw [decide_eq_false c, decide_eq_true (by omega), decide_eq_true d]; rfl
      · rw [decide_eq_false c, decide_eq_false (by omega), decide_eq_false d]; rfl
section Came
variable {u : Nat} {I : pm_II} {J : pm_JJ} {s : LTt} {cm : Nat → Nat} {K : Nat}
theorem c_came4 {i : Nat} (ho : okl s) (h : LC s cm K I J) (hi : i < s.1) : ∀ (d j N : Nat), j + d = s.1 → d < N → F_Ma_cameAheadOf_4 u N (nI i) (nI (cnt (fun p => decide (oL s p < oL s i)) j)) (nI j) I J = some (nI (oL s i), I, J) := by
  have h120 := h.1
  have hpm : cnt (fun p => decide (oL s p < oL s i)) s.1 = oL s i := by
    refine cnt_perm (f := oL s) (L := s.1) (fun p q hp hq z => ?_) (fun k hk => ⟨rkl s k, rk_lt hk, oL_r ho hk⟩) (oL s i) (Nat.le_of_lt (oL_h ho hi).1)
    have a := (oL_h ho hp).2
    have b := (oL_h ho hq).2
    rw [z] at a; omega
  intro d
  induction d with
  | zero =>
    intro j N hj hN
    obtain ⟨N, rfl⟩ : ∃ z, N = z + 1 := ⟨N - 1, by omega⟩
    have : j = s.1 := by omega
    subst this
    rw [F_Ma_cameAheadOf_4, h.2.2.2.2.1, if_pos (by rw [nI_leI (by omega) (by omega)]; omega), hpm]
  | succ d ih =>
    intro j N hj hN
    obtain ⟨N, rfl⟩ : ∃ z, N = z + 1 := ⟨N - 1, by omega⟩
    have hj1 : j < s.1 := by omega
    obtain ⟨a1, a2⟩ := oL_h ho hj1
    obtain ⟨b1, b2⟩ := oL_h ho hi
    have k1 := h.2.2.2.1 _ a1
    have k2 := h.2.2.2.1 _ b1
    have hK := h.2.1
    have hc : cnt (fun p => decide (oL s p < oL s i)) (j + 1) = cnt (fun p => decide (oL s p < oL s i)) j + (decide (oL s j < oL s i)).toNat := rfl
    rw [F_Ma_cameAheadOf_4, h.2.2.2.2.1, if_neg (by rw [nI_leI (by omega) (by omega)]; omega), vqT (show j < 120 by omega) (by omega), vqT (show i < 120 by omega) (by omega), nI_clamp (by omega), nI_clamp (by omega), (LC_g ho h hj1).2.2, (LC_g ho h hi).2.2, ← ih (j + 1) N (by omega) (by omega), hc]
    simp only [cond_true, nI_leI (show cm (oL s i) < 2 ^ 31 by omega) (show cm (oL s j) < 2 ^ 31 by omega)]
    by_cases c : oL s j < oL s i
    · have := h.2.2.1 _ _ c b1
      rw [if_neg (by omega), decide_eq_true c, nI_io1, nI_add, nI_add]; rfl
    · have : cm (oL s i) ≤ cm (oL s j) := by
        by_cases e : oL s i = oL s j
        · rw [e]; exact Nat.le_refl _
        · exact Nat.le_of_lt (h.2.2.1 _ _ (by omega) a1)
      rw [if_pos this, decide_eq_false c, nI_io1, nI_add]; rfl
theorem c_came {i : Nat} (hu : 200 ≤ u) (ho : okl s) (h : LC s cm K I J) (hi : i < s.1) : F_Ma_cameAheadOf u (nI i) I J = some (nI (oL s i), I, J) := by
  have h120 := h.1
  exact c_came4 ho h hi s.1 0 u (by omega) (by omega)
end Came
