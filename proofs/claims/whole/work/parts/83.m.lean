/-! ===== letters: a NAME in a long ===== -/
theorem shl64 : ∀ s : Fin 64, (((nI s.val).toInt64 &&& 63).toBitVec.smod 64).toNat = s.val := by decide +kernel
theorem lN_shl {y s : Nat} (hs : s < 64) : lN y <<< ((nI s).toInt64 &&& 63) = lN (y * 2 ^ s) := by
  apply Int64.toBitVec_inj.mp
  show (lN y).toBitVec <<< (((nI s).toInt64 &&& 63).toBitVec.smod 64).toNat = _
  rw [shl64 ⟨s, hs⟩]
  apply BitVec.eq_of_toNat_eq
  rw [BitVec.toNat_shiftLeft, Nat.shiftLeft_eq]
  show y % 2 ^ 64 * 2 ^ s % 2 ^ 64 = (y * 2 ^ s) % 2 ^ 64
  rw [Nat.mod_mul_mod]
theorem lN_tn {n : Nat} (h : n < 2 ^ 64) : (lN n).toBitVec.toNat = n := Nat.mod_eq_of_lt h
theorem lN_or {a c : Nat} (ha : a < 2 ^ 64) (hc : c < 2 ^ 64) : lN a ||| lN c = lN (a ||| c) := by
  apply Int64.toBitVec_inj.mp
  apply BitVec.eq_of_toNat_eq
  have : a ||| c < 2 ^ 64 := Nat.or_lt_two_pow ha hc
  rw [Int64.toBitVec_or, BitVec.toNat_or, lN_tn ha, lN_tn hc, lN_tn this]
def nmA (v : Nat → Nat) (l : Nat) : Nat → Nat
  | 0 => 0
  | k + 1 => 256 * nmA v l k + (if k < l then v k else 0)
theorem nmA_lt {v : Nat → Nat} {l : Nat} (h : ∀ k, k < l → v k < 256) : ∀ k, nmA v l k < 256 ^ k
  | 0 => by show 0 < 1; omega
  | k + 1 => by
    have := nmA_lt h k
    rw [nmA, Nat.pow_succ]
    have h2 : (if k < l then v k else 0) < 256 := by
      split
      · rename_i c; exact h k c
      · omega
    omega
theorem nmA_c {v : Nat → Nat} {l m : Nat} : ∀ k, k ≤ l → k ≤ m → nmA v l k = nmA v m k
  | 0, _, _ => rfl
  | k + 1, h1, h2 => by rw [nmA, nmA, nmA_c (l := l) (m := m) k (by omega) (by omega), if_pos (by omega), if_pos (by omega)]
theorem nmA_pad {v : Nat → Nat} {l : Nat} : ∀ d, nmA v l (l + d) = 256 ^ d * nmA v l l
  | 0 => by rw [Nat.add_zero, Nat.pow_zero, Nat.one_mul]
  | d + 1 => by rw [← Nat.add_assoc, nmA, nmA_pad d, if_neg (by omega), Nat.pow_succ, Nat.add_zero, ← Nat.mul_assoc, Nat.mul_comm 256]
section Name
variable {u : Nat} {I M : pm_II} {J : pm_JJ} {b : Nat → Int32} {n p f : Nat} {e : Option Nat}
def bv (b : Nat → Int32) (j : Nat) : Nat := (b j).toNatClampNeg
theorem bv_e {x : Nat} {j : Nat} (hx : x < 256) (h : b j = nI x) : b j = nI (bv b j) ∧ bv b j < 256 := by
  unfold bv
  rw [h, nI_clamp (by omega)]
  exact ⟨rfl, hx⟩
theorem c_name20 {l : Nat} (hbb : ∀ j, j < n → ∃ x : Nat, x < 256 ∧ b j = nI x) (hb : Tb b n I) (hl : p + l ≤ n) {q : Nat} : ∀ (d k N : Nat), k + d = 8 → d < N → F_Ma_readName_20 u N (nI l) (nI p) (lN (nmA (fun i => bv b (p + i)) l k)) (nI k) (tc I q f e) J = some (lN (nmA (fun i => bv b (p + i)) l 8), tc I q f e, J) := by
  have hn := hb.2.2
  have hv : ∀ k, k < l → (fun i => bv b (p + i)) k < 256 := fun k hk => by
    obtain ⟨x, hx, hx2⟩ := hbb (p + k) (by omega)
    exact (bv_e hx hx2).2
  intro d
  induction d with
  | zero =>
    intro k N hk hN
    obtain ⟨N, rfl⟩ : ∃ z, N = z + 1 := ⟨N - 1, by omega⟩
    have : k = 8 := by omega
    subst this
    rw [F_Ma_readName_20, if_pos (by decide)]
  | succ d ih =>
    intro k N hk hN
    obtain ⟨N, rfl⟩ : ∃ z, N = z + 1 := ⟨N - 1, by omega⟩
    have hA := nmA_lt hv k
    have hA7 : 256 ^ k ≤ 256 ^ 7 := Nat.pow_le_pow_right (by omega) (by omega)
    have h7 : (256 : Nat) ^ 7 = 2 ^ 56 := by decide
    have orr : ∀ c : Nat, c < 256 → lN (nmA (fun i => bv b (p + i)) l k * 2 ^ 8) ||| lN c = lN (256 * nmA (fun i => bv b (p + i)) l k + c) := by
      intro c hc
      rw [lN_or (by omega) (by omega), Nat.mul_comm]
      have := Nat.two_pow_add_eq_or_of_lt (i := 8) (b := c) (by omega) (nmA (fun i => bv b (p + i)) l k)
      rw [← this]
    have h8 : (8 : Int32).toInt64 = (nI 8).toInt64 := rfl
    have ih' := ih (k + 1) N (by omega) (by omega)
    rw [nmA] at ih'
    rw [F_Ma_readName_20, if_neg (show ¬ (8 : Int32) ≤ nI k by rw [nl_8, nI_leI (by omega) (by omega)]; omega), h8, lN_shl (by omega)]
    by_cases c : k < l
    · obtain ⟨x, hx, hx2⟩ := hbb (p + k) (by omega)
      obtain ⟨e1, e2⟩ := bv_e hx hx2
      rw [if_pos c] at ih'
      rw [if_neg (by rw [nI_leI (by omega) (by omega)]; omega), nI_add, t_byteAt (by omega) hb, bd_s, if_pos (by omega), e1, nI_l (by omega), orr _ e2, nI_io1, nI_add]
      exact ih'
    · rw [if_neg c] at ih'
      have z0 : (0 : Int32).toInt64 = lN 0 := rfl
      rw [if_pos (by rw [nI_leI (by omega) (by omega)]; omega), z0, orr 0 (by omega), nI_io1, nI_add]
      exact ih'
theorem c_name (hu : 1700 ≤ u) (hbb : ∀ j, j < n → ∃ x : Nat, x < 256 ∧ b j = nI x) (ho : Ok n p e) (hb : Tb b n I) : F_Ma_readName u (tc I p f e) J = some (lN (nmA (fun i => bv b (p + i)) (q_ll b n p e 8 true) 8), tc I (p + q_ll b n p e 8 true) p (if q_ll b n p e 8 true = 0 then q_bl e p else e), J) := by
  have hn := hb.2.2
  have hl := q_ll_le (b := b) (n := n) (p := p) (e := e) (most := 8) (od := true)
  have hp := ho.1
  unfold F_Ma_readName F_Ta_place
  have h1 := t_letters (u := u) (J := J) (f := f) (most := 8) (od := true) (by omega) (by omega) (by omega) ho hb
  have e1 : F_Ta_readLetters u 8 1 (tc I p f e) J = F_Ta_readLetters u (nI 8) (b2i true) (tc I p f e) J := rfl
  have e2 : ∀ x, (tc I (p + q_ll b n p e 8 true) p x) 17 2 = nI (p + q_ll b n p e 8 true) := fun x => rfl
  rw [e1, h1, bd_s, bd_s, e2, pk_sub (by omega), show p + q_ll b n p e 8 true - q_ll b n p e 8 true = p by omega]
  exact c_name20 hbb hb (by omega) 8 0 u (by omega) (by omega)
/-- a letter or a digit -/
def wch (c : Int32) : Prop := (97 ≤ c ∧ c ≤ 122) ∨ (48 ≤ c ∧ c ≤ 57)
theorem r_llk1 {m k p : Nat} (hk : 0 < k) (hw : wch (b p)) : r_ll b true (m + 1) k p = r_ll b true m (k + 1) (p + 1) + 1 := by
  rw [r_ll, if_pos]
  rcases hw with h | h
  · exact Or.inl h
  · exact Or.inr ⟨rfl, hk, h⟩
theorem r_llk0 {m k p : Nat} (hw : ¬ wch (b p)) : r_ll b true (m + 1) k p = 0 := by
  rw [r_ll, if_neg]
  rintro (h | ⟨_, _, h⟩)
  · exact hw (Or.inl h)
  · exact hw (Or.inr h)
/-- what the model has behind a name and its end -/
theorem m_name34 (hbb : ∀ j, j < n → ∃ x : Nat, x < 256 ∧ b j = nI x) (hM : Mb b n M) : ∀ (d i N : Nat), i + d = 8 → d + 2 < N → 1 ≤ i → p + i ≤ n → (∃ l, l = i + r_ll b true (min d (n - (p + i))) i (p + i) ∧ l ≤ 8 ∧ ∃ y q e', F_Mo_nameHere_34 u N (lN (256 ^ (8 - i) * nmA (fun j => bv b (p + j)) 8 i)) (nI p) (mc M (p + i) none) J = some (y, mc M q e', J) ∧ Om n q e' ∧ (e' = none → q = p + l ∧ p + l ≤ n ∧ y = lN (256 ^ (8 - l) * nmA (fun j => bv b (p + j)) 8 l)) ∧ (∀ z, e' = some z → z = p + l ∧ p + l < n ∧ ¬ b (p + l) = 10)) := by
  have hn := hM.2.2
  intro d
  induction d with
  | zero =>
    intro i N hi hN h1 hp
    obtain ⟨N, rfl⟩ : ∃ z, N = z + 2 := ⟨N - 2, by omega⟩
    have : i = 8 := by omega
    subst this
    refine ⟨8, by rw [Nat.zero_min]; rfl, by omega, ?_⟩
    have ho : Ok n (p + 8) none := Ok_0 hp
    have hw : ∀ (y : Int64), wch (h_re b n (p + 8)) → F_Mo_nameHere_61 u (F_Mo_nameHere_34 u (N + 1)) y (nI p) (mc M (p + 8) none) J = some (y, mc M (p + 8) (some (p + 8)), J) := by
      intro y _
      have h4 : (mc M (p + 8) none) 120 4 = nI (p + 8) := rfl
      have hoS : Om n (p + 8) (some (p + 8)) := ho.m.s hp
      unfold F_Mo_nameHere_61
      rw [h4, pk_sub (by omega), show p + 8 - p = 8 by omega, if_neg (by decide), m_fail0 ho.m hM, bd_s, F_Mo_nameHere_34, m_badS hoS hM, bd_s, if_pos (by decide)]
      rfl
    rw [F_Mo_nameHere_34, m_bad0 ho.m hM, bd_s, if_neg (by decide), m_here ho.m hM, bd_s, m_isSmall, bd_s, b2i_ifn, m_here ho.m hM, bd_s, m_isDigit, bd_s, b2i_if0]
    have fin : wch (h_re b n (p + 8)) → ∃ y q e', some (lN (256 ^ (8 - 8) * nmA (fun j => bv b (p + j)) 8 8), mc M (p + 8) (some (p + 8)), J) = some (y, mc M q e', J) ∧ Om n q e' ∧ (e' = none → q = p + 8 ∧ p + 8 ≤ n ∧ y = lN (256 ^ (8 - 8) * nmA (fun j => bv b (p + j)) 8 8)) ∧ (∀ z, e' = some z → z = p + 8 ∧ p + 8 < n ∧ ¬ b (p + 8) = 10) := by
      intro hw
      refine ⟨_, _, some (p + 8), rfl, ho.m.s hp, (fun z => by cases z), fun z hz => ?_⟩
      cases hz
      unfold h_re at hw
      by_cases q : p + 8 < n
      · rw [if_pos q] at hw
        refine ⟨rfl, q, fun e => ?_⟩
        rw [e] at hw
        exact absurd hw (by unfold wch; decide)
      · rw [if_neg q] at hw
        exact absurd hw (by unfold wch; decide)
    by_cases c1 : 97 ≤ h_re b n (p + 8) ∧ h_re b n (p + 8) ≤ 122
    · rw [decide_eq_true c1, cond_true, hw _ (Or.inl c1)]
      exact fin (Or.inl c1)
    · rw [decide_eq_false c1, cond_false]
      by_cases c2 : 48 ≤ h_re b n (p + 8) ∧ h_re b n (p + 8) ≤ 57
      · rw [decide_eq_true c2, cond_true, hw _ (Or.inr c2)]
        exact fin (Or.inr c2)
      · rw [decide_eq_false c2, cond_false]
        exact ⟨_, _, none, rfl, ho.m, fun _ => ⟨rfl, hp, rfl⟩, (fun z hz => by cases hz)⟩
  | succ d ih =>
    intro i N hi hN h1 hp
    obtain ⟨N, rfl⟩ : ∃ z, N = z + 1 := ⟨N - 1, by omega⟩
    have ho : Ok n (p + i) none := Ok_0 hp
    rw [F_Mo_nameHere_34, m_bad0 ho.m hM, bd_s, if_neg (by decide), m_here ho.m hM, bd_s, m_isSmall, bd_s, b2i_ifn, m_here ho.m hM, bd_s, m_isDigit, bd_s, b2i_if0]
    by_cases hw : wch (h_re b n (p + i))
    · have hpi : p + i < n := by
        unfold h_re at hw
        by_cases q : p + i < n
        · exact q
        · rw [if_neg q] at hw; exact absurd hw (by unfold wch; decide)
      have hh : h_re b n (p + i) = b (p + i) := by unfold h_re; rw [if_pos hpi]
      rw [hh] at hw
      obtain ⟨x, hx, hx2⟩ := hbb (p + i) hpi
      obtain ⟨e1, e2⟩ := bv_e hx hx2
      have hv : ∀ k, k < 8 → k < i → (fun j => bv b (p + j)) k < 256 := fun k _ hk => by
        obtain ⟨x, hx, hx2⟩ := hbb (p + k) (by omega)
        exact (bv_e hx hx2).2
      have e61 : F_Mo_nameHere_61 u (F_Mo_nameHere_34 u N) (lN (256 ^ (8 - i) * nmA (fun j => bv b (p + j)) 8 i)) (nI p) (mc M (p + i) none) J = F_Mo_nameHere_34 u N (lN (256 ^ (8 - (i + 1)) * nmA (fun j => bv b (p + j)) 8 (i + 1))) (nI p) (mc M (p + (i + 1)) none) J := by
        have h4 : (mc M (p + i) none) 120 4 = nI (p + i) := rfl
        unfold F_Mo_nameHere_61
        rw [h4, pk_sub (by omega), show p + i - p = i by omega, if_pos (by rw [nl_8, nI_eq (by omega) (by omega)]; omega), m_here ho.m hM, bd_s, hh, e1, nI_l (by omega), h4, pk_sub (by omega), show p + i - p = i by omega]
        rw [show (56 : Int32) - 8 * nI i = nI (56 - 8 * i) by rw [nl_8, pk_mul, nl_56, pk_sub (by omega)], lN_shl (by omega), nI_1, M2_a]
        have hA : nmA (fun j => bv b (p + j)) 8 i < 256 ^ i := by
          rw [nmA_c (l := 8) (m := i) i (by omega) (by omega)]
          exact nmA_lt (fun k hk => hv k (by omega) hk) i
        have p1 : 256 ^ (8 - i) = 2 ^ 8 * 2 ^ (56 - 8 * i) := by
          rw [← Nat.pow_add, show (256 : Nat) = 2 ^ 8 from rfl, ← Nat.pow_mul]; congr 1; omega
        have p2 : 256 ^ (8 - (i + 1)) = 2 ^ (56 - 8 * i) := by
          rw [show (256 : Nat) = 2 ^ 8 from rfl, ← Nat.pow_mul]; congr 1; omega
        have p3 : 256 ^ (8 - i) * nmA (fun j => bv b (p + j)) 8 i < 2 ^ 64 := by
          have : 256 ^ (8 - i) * 256 ^ i = 2 ^ 64 := by rw [← Nat.pow_add, show 8 - i + i = 8 by omega]
          rw [← this]
          exact Nat.mul_lt_mul_of_pos_left hA (Nat.pow_pos (by omega))
        have p4 : bv b (p + i) * 2 ^ (56 - 8 * i) < 2 ^ (64 - 8 * i) := by
          have : 2 ^ (64 - 8 * i) = 256 * 2 ^ (56 - 8 * i) := by rw [show (256 : Nat) = 2 ^ 8 from rfl, ← Nat.pow_add]; congr 1; omega
          rw [this]
          exact Nat.mul_lt_mul_of_pos_right e2 (Nat.pow_pos (by omega))
        have p5 : 2 ^ (64 - 8 * i) ≤ 2 ^ 64 := Nat.pow_le_pow_right (by omega) (by omega)
        rw [lN_or p3 (by omega)]
        have p6 : 256 ^ (8 - i) = 2 ^ (64 - 8 * i) := by
          rw [show (256 : Nat) = 2 ^ 8 from rfl, ← Nat.pow_mul]; congr 1; omega
        rw [p6, ← Nat.two_pow_add_eq_or_of_lt p4, ← p6, p1, p2, nmA, if_pos (by omega)]
        rw [Nat.mul_add, ← Nat.mul_assoc, Nat.mul_comm (2 ^ (56 - 8 * i)) (bv b (p + i)), Nat.mul_comm (2 ^ (56 - 8 * i)) (256)]
        rfl
      obtain ⟨l, l1, l2, y, q, e', a1, a2, a3, a4⟩ := ih (i + 1) N (by omega) (by omega) (by omega) (by omega)
      have hm : min (d + 1) (n - (p + i)) = min d (n - (p + (i + 1))) + 1 := by omega
      refine ⟨l, ?_, l2, y, q, e', ?_, a2, a3, a4⟩
      · rw [hm, r_llk1 (by omega) hw, l1, Nat.add_assoc p i 1]; omega
      · rw [hh]
        rcases hw with c1 | c2
        · rw [decide_eq_true c1, cond_true, e61]; exact a1
        · by_cases c1 : 97 ≤ b (p + i) ∧ b (p + i) ≤ 122
          · rw [decide_eq_true c1, cond_true, e61]; exact a1
          · rw [decide_eq_false c1, cond_false, decide_eq_true c2, cond_true, e61]; exact a1
    · refine ⟨i, ?_, by omega, lN (256 ^ (8 - i) * nmA (fun j => bv b (p + j)) 8 i), p + i, none, ?_, ho.m, fun _ => ⟨rfl, hp, rfl⟩, (fun z hz => by cases hz)⟩
      · by_cases q : p + i < n
        · have hh : h_re b n (p + i) = b (p + i) := by unfold h_re; rw [if_pos q]
          rw [hh] at hw
          obtain ⟨m, hm⟩ : ∃ m, min (d + 1) (n - (p + i)) = m + 1 := ⟨min (d + 1) (n - (p + i)) - 1, by omega⟩
          rw [hm, r_llk0 hw, Nat.add_zero]
        · rw [show min (d + 1) (n - (p + i)) = 0 by omega]; rfl
      · rw [decide_eq_false (fun z => hw (Or.inl z)), cond_false, decide_eq_false (fun z => hw (Or.inr z)), cond_false]
        rfl
end Name
