/-! ===== where a page lies ===== -/
theorem dm_d {t m k : Nat} (h : k < m) : (t * m + k) / m = t ∧ (t * m + k) % m = k := by
  constructor
  · rw [Nat.mul_comm, Nat.mul_add_div (by omega), Nat.div_eq_of_lt h]; omega
  · rw [Nat.mul_comm, Nat.mul_add_mod, Nat.mod_eq_of_lt h]
theorem dm_inj {t t2 m k k2 : Nat} (h : k < m) (h2 : k2 < m) (e : t * m + k = t2 * m + k2) : t = t2 ∧ k = k2 := by
  have a := dm_d (t := t) h
  have b := dm_d (t := t2) h2
  rw [e] at a
  exact ⟨a.1.symm.trans b.1, a.2.symm.trans b.2⟩
def plr (L s wy t k : Nat) : Nat := if wy = 0 then t * L + k else if L / 2 ≤ k then s * (L / 2) + (s - 1 - t) * (L - L / 2) + (k - L / 2) else t * (L / 2) + k
theorem plc_r {R C s wy t k : Nat} (ht : t < s) (hk : k < R * C) : plc R C s wy t k = plr (R * C) s wy t k := by
  unfold plc plr
  generalize R * C = L at *
  split
  · rfl
  · split
    · have e1 : s * (L / 2) + s * (L - L / 2) = s * L := by rw [← Nat.mul_add]; congr 1; omega
      have e2 : (s - 1 - t) * (L - L / 2) + (t + 1) * (L - L / 2) = s * (L - L / 2) := by rw [← Nat.add_mul]; congr 1; omega
      omega
    · rfl
theorem plr_lt {L s t k : Nat} (ht : t < s) (hk : k < L / 2) : t * (L / 2) + k < s * (L / 2) := by
  have : (t + 1) * (L / 2) ≤ s * (L / 2) := Nat.mul_le_mul_right _ ht
  rw [Nat.succ_mul] at this
  omega
theorem plr_inj {L s wy t k t2 k2 : Nat} (ht : t < s) (hk : k < L) (ht2 : t2 < s) (hk2 : k2 < L) (e : plr L s wy t k = plr L s wy t2 k2) : t = t2 ∧ k = k2 := by
  unfold plr at e
  by_cases w : wy = 0
  · rw [if_pos w, if_pos w] at e
    exact dm_inj hk hk2 e
  · rw [if_neg w, if_neg w] at e
    by_cases g : L / 2 ≤ k
    · rw [if_pos g] at e
      by_cases g2 : L / 2 ≤ k2
      · rw [if_pos g2] at e
        have := dm_inj (t := s - 1 - t) (t2 := s - 1 - t2) (m := L - L / 2) (k := k - L / 2) (k2 := k2 - L / 2) (by omega) (by omega) (by omega)
        omega
      · rw [if_neg g2] at e
        have := plr_lt (L := L) ht2 (by omega : k2 < L / 2)
        omega
    · rw [if_neg g] at e
      by_cases g2 : L / 2 ≤ k2
      · rw [if_pos g2] at e
        have := plr_lt (L := L) ht (by omega : k < L / 2)
        omega
      · rw [if_neg g2] at e
        exact dm_inj (by omega) (by omega) e
theorem plr_ex {L s wy P : Nat} (h : P < s * L) : ∃ t k, t < s ∧ k < L ∧ plr L s wy t k = P := by
  have hL : 0 < L := Nat.pos_of_ne_zero (fun z => by rw [z, Nat.mul_zero] at h; omega)
  unfold plr
  by_cases w : wy = 0
  · refine ⟨P / L, P % L, (Nat.div_lt_iff_lt_mul hL).mpr h, Nat.mod_lt _ hL, ?_⟩
    rw [if_pos w, Nat.mul_comm]; exact Nat.div_add_mod P L
  · by_cases g : P < s * (L / 2)
    · have hh : 0 < L / 2 := Nat.pos_of_ne_zero (fun z => by rw [z, Nat.mul_zero] at g; omega)
      refine ⟨P / (L / 2), P % (L / 2), (Nat.div_lt_iff_lt_mul hh).mpr g, ?_, ?_⟩
      · have := Nat.mod_lt P hh; omega
      · rw [if_neg w, if_neg (by have := Nat.mod_lt P hh; omega), Nat.mul_comm]; exact Nat.div_add_mod P (L / 2)
    · have hh : 0 < L - L / 2 := by omega
      have e1 : s * (L / 2) + s * (L - L / 2) = s * L := by rw [← Nat.mul_add]; congr 1; omega
      have a1 : (P - s * (L / 2)) / (L - L / 2) < s := (Nat.div_lt_iff_lt_mul hh).mpr (by omega)
      have a2 := Nat.mod_lt (P - s * (L / 2)) hh
      have a3 := Nat.div_add_mod (P - s * (L / 2)) (L - L / 2)
      generalize (P - s * (L / 2)) / (L - L / 2) = D at *
      generalize (P - s * (L / 2)) % (L - L / 2) = E at *
      refine ⟨s - 1 - D, L / 2 + E, by omega, by omega, ?_⟩
      rw [if_neg w, if_pos (by omega)]
      have e2 : s - 1 - (s - 1 - D) = D := by omega
      rw [e2, Nat.mul_comm D]
      omega
theorem enc {R C x : Nat} : x = x / (2 * R * C) * (2 * R * C) + x / (R * C) % 2 * (R * C) + (x / C % R * C + x % C) := by
  have h1 := Nat.div_add_mod x C
  have h2 := Nat.div_add_mod (x / C) R
  have h3 := Nat.div_add_mod (x / (R * C)) 2
  have e2 : x / C / R = x / (R * C) := by rw [Nat.div_div_eq_div_mul, Nat.mul_comm]
  have e3 : x / (R * C) / 2 = x / (2 * R * C) := by rw [Nat.div_div_eq_div_mul, Nat.mul_comm (R * C), Nat.mul_assoc]
  rw [e2] at h2
  rw [e3] at h3
  have k2 : x / C * C = (R * (x / (R * C)) + x / C % R) * C := by rw [h2]
  have k3 : x / (R * C) * (R * C) = (2 * (x / (2 * R * C)) + x / (R * C) % 2) * (R * C) := by rw [h3]
  rw [Nat.add_mul] at k2 k3
  have k4 : R * (x / (R * C)) * C = x / (R * C) * (R * C) := by rw [Nat.mul_comm R, Nat.mul_assoc]
  have k5 : 2 * (x / (2 * R * C)) * (R * C) = x / (2 * R * C) * (2 * R * C) := by rw [Nat.mul_comm 2, Nat.mul_assoc, Nat.mul_assoc 2]
  rw [Nat.mul_comm C] at h1
  omega
section Where
variable {u : Nat} {I : pm_II} {J : pm_JJ} {R C s wy cal : Nat} {lf sk : Nat → Nat} {tn tb : Nat → Bool}
theorem j_min {x y : Int32} : F_Jm_min_II u x y I J = some ((if x ≤ y then x else y), I, J) := by
  unfold F_Jm_min_II
  by_cases c : y < x
  · rw [if_pos c, if_neg (Int32.not_le.mpr c)]
  · rw [if_neg c, if_pos (Int32.not_lt.mp c)]
/-- the class: the loop over the leaves of one sheet -/
theorem wf_74 {K : Int32 → Int32 → Int32 → Int32 → pm_II → pm_JJ → Option (Int32 × pm_II × pm_JJ)} {x1 x2 : Int32} {P t : Nat} (h : Q2 R C s wy cal lf sk tn tb I) (ht : t < s) (hP : P < 2 ^ 31) : ∀ (d k N : Nat), k + d = R * C → d < N → (∀ j, k ≤ j → j < R * C → plc R C s wy t j ≠ P) → F_Fo_find_74 u K N x1 x2 (nI P) (nI t) (nI k) I J = K x1 x2 (nI P) (nI (t + 1)) I J := by
  intro d
  have b := h.1
  have h64 := rc_le b.2.1 b.2.2.2.1
  induction d with
  | zero =>
    intro k N hk hN hj
    obtain ⟨N, rfl⟩ : ∃ z, N = z + 1 := ⟨N - 1, by omega⟩
    rw [F_Fo_find_74]
    unfold F_Fo_leaves
    rw [bd_s, h.2.1.1, h.2.1.2.1, pk_mul, if_pos (by rw [nI_leI (by omega) (by omega)]; omega)]
    unfold F_Fo_find_127
    rw [nI_io1, nI_add]
  | succ d ih =>
    intro k N hk hN hj
    obtain ⟨N, rfl⟩ : ∃ z, N = z + 1 := ⟨N - 1, by omega⟩
    rw [F_Fo_find_74]
    unfold F_Fo_leaves
    obtain ⟨_, a2, _, _, _, a6⟩ := plc_aux (wy := wy) b.2.1 b.2.2.2.1 b.2.2.2.2.2.1 ht (show k < R * C by omega)
    rw [bd_s, h.2.1.1, h.2.1.2.1, pk_mul, if_neg (by rw [nI_leI (by omega) (by omega)]; omega), nl_64, if_neg (by rw [nI_leI (by omega) (by omega)]; omega), c_placeOf h ht (by omega), bd_s, if_pos (by rw [nI_eq (by omega) (by omega)]; exact hj k (by omega) (by omega)), nI_io1, nI_add]
    exact ih (k + 1) N (by omega) (by omega) (fun j a b => hj j (by omega) b)
theorem wf_74f {K : Int32 → Int32 → Int32 → Int32 → pm_II → pm_JJ → Option (Int32 × pm_II × pm_JJ)} {x1 x2 : Int32} {P t k0 : Nat} (h : Q2 R C s wy cal lf sk tn tb I) (ht : t < s) (hk0 : k0 < R * C) (hP : plc R C s wy t k0 = P) (hP2 : P < 2 ^ 31) : ∀ (d k N : Nat), k + d = k0 → d < N → (∀ j, k ≤ j → j < k0 → plc R C s wy t j ≠ P) → F_Fo_find_74 u K N x1 x2 (nI P) (nI t) (nI k) I J = F_Fo_tellPanel u (nI t) (nI (sk k0)) (x1 - x1 / 2 * 2) x2 I J := by
  intro d
  have b := h.1
  have h64 := rc_le b.2.1 b.2.2.2.1
  induction d with
  | zero =>
    intro k N hk hN hj
    obtain ⟨N, rfl⟩ : ∃ z, N = z + 1 := ⟨N - 1, by omega⟩
    have e : k = k0 := by omega
    subst e
    rw [F_Fo_find_74]
    unfold F_Fo_leaves
    obtain ⟨_, a2, _, _, _, a6⟩ := plc_aux (wy := wy) b.2.1 b.2.2.2.1 b.2.2.2.2.2.1 ht hk0
    rw [bd_s, h.2.1.1, h.2.1.2.1, pk_mul, if_neg (by rw [nI_leI (by omega) (by omega)]; omega), nl_64, if_neg (by rw [nI_leI (by omega) (by omega)]; omega), c_placeOf h ht (by omega), bd_s, if_neg (by rw [hP]; simp), vqT (show k < 64 by omega) (by omega), cond_true, nI_clamp (by omega), (h.2.2.2.2.1 k hk0).1]
    cases F_Fo_tellPanel u (nI t) (nI (sk k)) (x1 - x1 / 2 * 2) x2 I J with
    | none => rfl
    | some z => rfl
  | succ d ih =>
    intro k N hk hN hj
    obtain ⟨N, rfl⟩ : ∃ z, N = z + 1 := ⟨N - 1, by omega⟩
    rw [F_Fo_find_74]
    unfold F_Fo_leaves
    obtain ⟨_, a2, _, _, _, a6⟩ := plc_aux (wy := wy) b.2.1 b.2.2.2.1 b.2.2.2.2.2.1 ht (show k < R * C by omega)
    rw [bd_s, h.2.1.1, h.2.1.2.1, pk_mul, if_neg (by rw [nI_leI (by omega) (by omega)]; omega), nl_64, if_neg (by rw [nI_leI (by omega) (by omega)]; omega), c_placeOf h ht (by omega), bd_s, if_pos (by rw [nI_eq (by omega) (by omega)]; exact hj k (by omega) (by omega)), nI_io1, nI_add]
    exact ih (k + 1) N (by omega) (by omega) (fun j a b => hj j (by omega) b)
theorem wf_62 {x1 x2 : Int32} {P t0 k0 : Nat} (hu : 100 ≤ u) (h : Q2 R C s wy cal lf sk tn tb I) (ht : t0 < s) (hk0 : k0 < R * C) (hP : plc R C s wy t0 k0 = P) : ∀ (d t N : Nat), t + d = t0 → d < N → F_Fo_find_62 u N x1 x2 (nI P) (nI t) I J = F_Fo_tellPanel u (nI t0) (nI (sk k0)) (x1 - x1 / 2 * 2) x2 I J := by
  intro d
  have b := h.1
  have h64 := rc_le b.2.1 b.2.2.2.1
  obtain ⟨_, a2, _, _, _, a6⟩ := plc_aux (wy := wy) b.2.1 b.2.2.2.1 b.2.2.2.2.2.1 ht hk0
  have uniq : ∀ t j, t < s → j < R * C → plc R C s wy t j = P → t = t0 ∧ j = k0 := by
    intro t j h1 h2 e
    rw [← hP, plc_r h1 h2, plc_r ht hk0] at e
    exact plr_inj h1 h2 ht hk0 e
  induction d with
  | zero =>
    intro t N hk hN
    obtain ⟨N, rfl⟩ : ∃ z, N = z + 1 := ⟨N - 1, by omega⟩
    have e : t = t0 := by omega
    subst e
    rw [F_Fo_find_62, h.2.1.2.2.1, if_neg (by rw [nI_leI (by omega) (by omega)]; omega), nl_0]
    exact wf_74f h ht hk0 hP (by omega) k0 0 u (by omega) (by omega) (fun j _ hj e => by have := (uniq t j ht (by omega) e).2; omega)
  | succ d ih =>
    intro t N hk hN
    obtain ⟨N, rfl⟩ : ∃ z, N = z + 1 := ⟨N - 1, by omega⟩
    rw [F_Fo_find_62, h.2.1.2.2.1, if_neg (by rw [nI_leI (by omega) (by omega)]; omega), nl_0]
    rw [wf_74 h (show t < s by omega) (by omega) (R * C) 0 u (by omega) (by omega) (fun j _ hj e => by have := (uniq t j (by omega) hj e).1; omega)]
    exact ih (t + 1) N (by omega) (by omega)
theorem dvI {a b : Nat} (ha : a < 2 ^ 31) (hb : 0 < b) (hb2 : b < 2 ^ 31) : nI a / nI b = nI (a / b) := pk_div ha hb hb2
theorem rmI {a b : Nat} (ha : a < 2 ^ 31) (hb : 0 < b) (hb2 : b < 2 ^ 31) : nI a - nI (a / b) * nI b = nI (a % b) := by rw [← dvI ha hb hb2]; exact pk_rem ha hb hb2
def wans (t d r c q A cal : Nat) (x : Int32) : Int32 := if x = nI 0 then nI t else if x = nI 1 then nI d else if x = nI 2 then nI r else if x = nI 3 then nI c else if x = nI 4 then nI cal * (if nI (q / 2) ≤ nI A - 1 - nI (q / 2) then nI (q / 2) else nI A - 1 - nI (q / 2)) else -1
theorem pgo_u {t d p t2 d2 p2 : Nat} (h : Q2 R C s wy cal lf sk tn tb I) (ht : t < s) (hd : d ≤ 1) (hp : p < R * C) (ht2 : t2 < s) (hd2 : d2 ≤ 1) (hp2 : p2 < R * C) (e : pgo R C s wy lf tn t d p = pgo R C s wy lf tn t2 d2 p2) : t = t2 ∧ d = d2 ∧ p = p2 := by
  have g := h.2.2.2.1 p hp
  have g2 := h.2.2.2.1 p2 hp2
  have e1 : plc R C s wy t (lf p) = plc R C s wy t2 (lf p2) := by
    unfold pgo at e
    split at e <;> split at e <;> omega
  have e2 := e1
  rw [plc_r ht g.2.2.2.1, plc_r ht2 g2.2.2.2.1] at e2
  obtain ⟨z1, z2⟩ := plr_inj ht g.2.2.2.1 ht2 g2.2.2.2.1 e2
  have z3 : p = p2 := by rw [← g.2.2.2.2, z2, g2.2.2.2.2]
  subst z3
  refine ⟨z1, ?_, rfl⟩
  unfold pgo at e
  rw [e1] at e
  match d, d2, hd, hd2 with
  | 0, 0, _, _ => rfl
  | 1, 1, _, _ => rfl
  | 0, 1, _, _ => cases h : tn p <;> simp [h] at e
  | 1, 0, _, _ => cases h : tn p <;> simp [h] at e
theorem wm_33 {x2 : Int32} {t0 d0 r0 c0 q : Nat} (h : Q2 R C s wy cal lf sk tn tb I) (ht : t0 < s) (hd : d0 ≤ 1) (hr : r0 < R) (hc : c0 < C) (hq : pgo R C s wy lf tn t0 d0 (r0 * C + c0) = q) (hq2 : q < 2 * (s * R * C)) : ∀ (d x N : Nat), x + d = t0 * (2 * R * C) + d0 * (R * C) + (r0 * C + c0) → d < N → F_Mo_where_33 u N (nI q) x2 (nI (s * R * C)) (nI x) I J = some (wans t0 d0 r0 c0 q (s * R * C) cal x2, I, J) := by
  have b := h.1
  have h64 := rc_le b.2.1 b.2.2.2.1
  have hp0 := rc_lt hr hc
  have hA : s * R * C = s * (R * C) := Nat.mul_assoc _ _ _
  have hA2 : s * (R * C) ≤ 8 * 64 := Nat.mul_le_mul b.2.2.2.2.2.1 h64
  have hRC : 0 < R * C := Nat.mul_pos b.1 b.2.2.1
  have hM : t0 * (2 * R * C) + d0 * (R * C) + (r0 * C + c0) < 2 * (s * R * C) := by
    have e1 : t0 * (2 * R * C) = 2 * (t0 * (R * C)) := by rw [Nat.mul_assoc 2, Nat.mul_left_comm]
    have e2 : (t0 + 1) * (R * C) ≤ s * (R * C) := Nat.mul_le_mul_right _ ht
    rw [Nat.succ_mul] at e2
    have e3 : d0 * (R * C) ≤ 1 * (R * C) := Nat.mul_le_mul_right _ hd
    omega
  have e2RC : 2 * R * C = 2 * (R * C) := Nat.mul_assoc _ _ _
  intro d
  induction d with
  | zero =>
    intro x N hx hN
    obtain ⟨N, rfl⟩ : ∃ z, N = z + 1 := ⟨N - 1, by omega⟩
    have n1 : ¬ nI (2 * R * C) = 0 := by rw [i0_iff (by omega)]; omega
    have n2 : ¬ nI (R * C) = 0 := by rw [i0_iff (by omega)]; omega
    have n3 : ¬ nI R = 0 := by rw [i0_iff (by omega)]; omega
    have n4 : ¬ nI C = 0 := by rw [i0_iff (by omega)]; omega
    have xe : x = t0 * (2 * R * C) + (d0 * (R * C) + (r0 * C + c0)) := by omega
    have l1 : d0 * (R * C) + (r0 * C + c0) < 2 * R * C := by
      have e3 : d0 * (R * C) ≤ 1 * (R * C) := Nat.mul_le_mul_right _ hd
      omega
    have d1 : x / (2 * R * C) = t0 := by rw [xe]; exact (dm_d l1).1
    have xe2 : x = (t0 * 2 + d0) * (R * C) + (r0 * C + c0) := by rw [xe, e2RC, Nat.add_mul, ← Nat.mul_assoc t0 2]; omega
    have d2 : x / (R * C) = t0 * 2 + d0 := by rw [xe2]; exact (dm_d hp0).1
    have d2m : (t0 * 2 + d0) % 2 = d0 := by omega
    have xe3 : x = ((t0 * 2 + d0) * R + r0) * C + c0 := by rw [xe2, Nat.add_mul ((t0 * 2 + d0) * R), Nat.mul_assoc (t0 * 2 + d0)]; omega
    have d3 : x / C = (t0 * 2 + d0) * R + r0 := by rw [xe3]; exact (dm_d hc).1
    have d3m : ((t0 * 2 + d0) * R + r0) % R = r0 := (dm_d hr).2
    have d4 : x % C = c0 := by rw [xe3]; exact (dm_d hc).2
    have bx : (t0 * 2 + d0) * R + r0 < 2 ^ 31 := by rw [← d3]; exact Nat.lt_of_le_of_lt (Nat.div_le_self _ _) (by omega)
    have bx2 : t0 * 2 + d0 < 2 ^ 31 := by omega
    rw [F_Mo_where_33, nl_2, pk_mul, if_neg (by rw [nI_leI (by omega) (by omega)]; omega), h.2.2.1.1, h.2.2.1.2.1, pk_mul, pk_mul, pk_mul, if_pos n1, if_pos n2, if_pos n4, if_pos n3, if_pos n4]
    rw [dvI (a := x) (b := 2 * R * C) (by omega) (by omega) (by omega), d1, dvI (a := x) (b := R * C) (by omega) (by omega) (by omega), d2, dvI (a := t0 * 2 + d0) (b := 2) bx2 (by omega) (by omega), rmI bx2 (by omega) (by omega), d2m]
    rw [dvI (a := x) (b := C) (by omega) (by omega) (by omega), d3, dvI (b := R) bx (by omega) (by omega), rmI bx (by omega) (by omega), d3m]
    rw [show nI x - nI ((t0 * 2 + d0) * R + r0) * nI C = nI c0 by rw [← d3, rmI (by omega) (by omega) (by omega), d4]]
    rw [m_pageOf h ht hd hr hc, bd_s, hq, if_pos rfl, dvI (a := q) (b := 2) (by omega) (by omega) (by omega), j_min, bd_s, h.2.2.1.2.2.2.2]
    unfold wans
    by_cases c0 : x2 = nI 0
    · rw [if_pos c0, if_pos c0]
    · rw [if_neg c0, if_neg c0]
      by_cases c1 : x2 = nI 1
      · rw [if_pos c1, if_pos c1]
      · rw [if_neg c1, if_neg c1]
        by_cases c2 : x2 = nI 2
        · rw [if_pos c2, if_pos c2]
        · rw [if_neg c2, if_neg c2]
          by_cases c3 : x2 = nI 3
          · rw [if_pos c3, if_pos c3]
          · rw [if_neg c3, if_neg c3]
            by_cases c4 : x2 = nI 4
            · rw [if_pos c4, if_pos c4]
            · rw [if_neg c4, if_neg c4]
  | succ d ih =>
    intro x N hx hN
    obtain ⟨N, rfl⟩ : ∃ z, N = z + 1 := ⟨N - 1, by omega⟩
    have n1 : ¬ nI (2 * R * C) = 0 := by rw [i0_iff (by omega)]; omega
    have n2 : ¬ nI (R * C) = 0 := by rw [i0_iff (by omega)]; omega
    have n3 : ¬ nI R = 0 := by rw [i0_iff (by omega)]; omega
    have n4 : ¬ nI C = 0 := by rw [i0_iff (by omega)]; omega
    have en := enc (R := R) (C := C) (x := x)
    have l1 : x / (2 * R * C) < s := (Nat.div_lt_iff_lt_mul (by omega)).mpr (by rw [e2RC, Nat.mul_left_comm]; omega)
    have l2 : x / (R * C) % 2 ≤ 1 := by have := Nat.mod_lt (x / (R * C)) (show 0 < 2 by omega); omega
    have l3 : x / C % R < R := Nat.mod_lt _ b.1
    have l4 : x % C < C := Nat.mod_lt _ b.2.2.1
    have b1 : x / (R * C) < 2 ^ 31 := Nat.lt_of_le_of_lt (Nat.div_le_self _ _) (by omega)
    have b2 : x / C < 2 ^ 31 := Nat.lt_of_le_of_lt (Nat.div_le_self _ _) (by omega)
    have hne : ¬ pgo R C s wy lf tn (x / (2 * R * C)) (x / (R * C) % 2) (x / C % R * C + x % C) = q := by
      intro e
      rw [← hq] at e
      obtain ⟨z1, z2, z3⟩ := pgo_u h l1 l2 (rc_lt l3 l4) ht hd hp0 e
      rw [z1, z2, z3] at en
      omega
    have hpl : pgo R C s wy lf tn (x / (2 * R * C)) (x / (R * C) % 2) (x / C % R * C + x % C) < 2 ^ 31 := by
      have := (plc_aux (wy := wy) b.2.1 b.2.2.2.1 b.2.2.2.2.2.1 l1 (h.2.2.2.1 _ (rc_lt l3 l4)).2.2.2.1).2.2.2.2.2
      unfold pgo
      split <;> omega
    rw [F_Mo_where_33, nl_2, pk_mul, if_neg (by rw [nI_leI (by omega) (by omega)]; omega), h.2.2.1.1, h.2.2.1.2.1, pk_mul, pk_mul, pk_mul, if_pos n1, if_pos n2, if_pos n4, if_pos n3, if_pos n4]
    rw [dvI (a := x) (b := 2 * R * C) (by omega) (by omega) (by omega), dvI (a := x) (b := R * C) (by omega) (by omega) (by omega), dvI (b := 2) b1 (by omega) (by omega), rmI b1 (by omega) (by omega)]
    rw [dvI (a := x) (b := C) (by omega) (by omega) (by omega), dvI (b := R) b2 (by omega) (by omega), rmI b2 (by omega) (by omega), rmI (a := x) (b := C) (by omega) (by omega) (by omega)]
    rw [m_pageOf h l1 l2 l3 l4, bd_s, if_neg (by rw [nI_eq hpl (by omega)]; exact hne), nI_io1, nI_add]
    exact ih (x + 1) N (by omega) (by omega)
theorem st_where {x y : Int32} (hu : 2000 ≤ u) (h : P2 I) : ∃ v, F_Fo_find u x y I J = some (v, I, J) ∧ F_Mo_where u x y I J = some (v, I, J) := by
  obtain ⟨R, C, s, wy, cal, lf, sk, tn, tb, h⟩ := h
  have b := h.1
  have h64 := rc_le b.2.1 b.2.2.2.1
  have hA : s * R * C = s * (R * C) := Nat.mul_assoc _ _ _
  have hA2 : s * (R * C) ≤ 8 * 64 := Nat.mul_le_mul b.2.2.2.2.2.1 h64
  unfold F_Fo_find F_Mo_where F_Fo_leaves
  rw [bd_s, h.2.1.1, h.2.1.2.1, h.2.1.2.2.1, h.2.2.1.1, h.2.2.1.2.1, h.2.2.1.2.2.1, pk_mul, pk_mul, nl_2, pk_mul, pk_mul, pk_mul, pk_mul, m_isB, bd_s, b2i_ifn, rgb_rng (by omega), rng_if, rgb_if2]
  have e1 : decide (0 ≤ x ∧ x < nI (s * (R * C) * 2)) = rng x (2 * (s * R * C)) := by unfold rng; rw [hA, Nat.mul_comm 2]
  rw [e1]
  cases e : rng x (2 * (s * R * C)) with
  | false => exact ⟨_, rfl, rfl⟩
  | true =>
    obtain ⟨q, hq, rfl⟩ := rng_n (by omega) e
    have hq2 : q / 2 < s * (R * C) := by omega
    obtain ⟨t0, k0, ht, hk, hpl⟩ := plr_ex (wy := wy) hq2
    rw [← plc_r ht hk] at hpl
    obtain ⟨g1, g2, g3⟩ := h.2.2.2.2.1 k0 hk
    have hr : sk k0 / C < R := (Nat.div_lt_iff_lt_mul b.2.2.1).mpr g2
    have hc : sk k0 % C < C := Nat.mod_lt _ b.2.2.1
    have hrc : sk k0 / C * C + sk k0 % C = sk k0 := by rw [Nat.mul_comm]; exact Nat.div_add_mod _ _
    obtain ⟨d0, hd0, hd0e⟩ : ∃ d0, d0 ≤ 1 ∧ (if decide (d0 = 1) = tn (sk k0) then 0 else 1) = q % 2 := by
      have : q % 2 = 0 ∨ q % 2 = 1 := by omega
      cases htn : tn (sk k0) <;> rcases this with z | z <;> rw [z]
      · exact ⟨0, by omega, rfl⟩
      · exact ⟨1, by omega, rfl⟩
      · exact ⟨1, by omega, rfl⟩
      · exact ⟨0, by omega, rfl⟩
    have hpg : pgo R C s wy lf tn t0 d0 (sk k0 / C * C + sk k0 % C) = q := by
      rw [hrc]
      unfold pgo
      rw [g3, hpl, hd0e]
      omega
    have hk1024 : t0 * (2 * R * C) + d0 * (R * C) + (sk k0 / C * C + sk k0 % C) < 1100 := by
      have e1 : t0 * (2 * R * C) = 2 * (t0 * (R * C)) := by rw [Nat.mul_assoc 2, Nat.mul_left_comm]
      have e2 : (t0 + 1) * (R * C) ≤ s * (R * C) := Nat.mul_le_mul_right _ ht
      rw [Nat.succ_mul] at e2
      have e3 : d0 * (R * C) ≤ 1 * (R * C) := Nat.mul_le_mul_right _ hd0
      omega
    simp only [cond_true]
    refine ⟨_, ?_, wm_33 h ht hd0 hr hc hpg hq _ 0 u (Nat.zero_add _) (by omega)⟩
    have hans : ∀ y : Int32, (y = nI 0 ∨ y = nI 1 ∨ y = nI 2 ∨ y = nI 3) → F_Fo_find_62 u u (nI q) y (nI q / nI 2) (nI 0) I J = some (wans t0 d0 (sk k0 / C) (sk k0 % C) q (s * R * C) cal y, I, J) := by
      intro y hy
      rw [dvI (by omega) (by omega) (by omega), wf_62 (by omega) h ht hk hpl t0 0 u (by omega) (by omega)]
      unfold F_Fo_tellPanel wans
      have n4 : ¬ nI C = 0 := by rw [i0_iff (by omega)]; omega
      rw [if_neg (nI_pos (by omega)), nl_64, if_neg (by rw [nI_leI (by omega) (by omega)]; omega), h.2.1.2.1, nl_1, if_pos (by rw [nI_leI (by omega) (by omega)]; omega), if_pos n4, if_pos n4, vqT (show sk k0 < 64 by omega) (by omega), cond_true, nI_clamp (by omega), (h.2.2.2.1 (sk k0) g2).2.1, nl_2, dvI (a := sk k0) (b := C) (by omega) (by omega) (by omega), rmI (by omega) (by omega) (by omega), dvI (a := q) (b := 2) (by omega) (by omega) (by omega), rmI (by omega) (by omega) (by omega)]
      rcases hy with rfl | rfl | rfl | rfl
      · rfl
      · rw [if_neg (by decide), if_pos rfl, if_neg (by decide), if_pos rfl, ← hd0e]
        congr 2
        match d0, hd0 with
        | 0, _ => cases tn (sk k0) <;> rfl
        | 1, _ => cases tn (sk k0) <;> rfl
      · rfl
      · rfl
    cases e2 : rgb y 0 4 with
    | false =>
      have : wans t0 d0 (sk k0 / C) (sk k0 % C) q (s * R * C) cal y = -1 := by
        unfold wans
        have hn : ∀ i, i ≤ 4 → ¬ y = nI i := by
          intro i hi z
          rw [z] at e2
          have : rgb (nI i) 0 4 = true := by
            unfold rgb
            rw [nl_0, nl_4, decide_eq_true]
            constructor
            · rw [nI_leI (by omega) (by omega)]; omega
            · rw [nI_leI (by omega) (by omega)]; omega
          rw [this] at e2; cases e2
        rw [if_neg (hn 0 (by omega)), if_neg (hn 1 (by omega)), if_neg (hn 2 (by omega)), if_neg (hn 3 (by omega)), if_neg (hn 4 (by omega))]
      rw [this]
      rfl
    | true =>
      obtain ⟨w, _, hw, rfl⟩ := rgb_n (lo := 0) (hi := 4) (by omega) (by omega) e2
      simp only [cond_true]
      by_cases c4 : w = 4
      · subst c4
        rw [if_neg (by decide), h.2.1.2.2.2.2, dvI (by omega) (by omega) (by omega), j_min, bd_s]
        have : wans t0 d0 (sk k0 / C) (sk k0 % C) q (s * R * C) cal (nI 4) = nI cal * (if nI (q / 2) ≤ nI (s * R * C) - 1 - nI (q / 2) then nI (q / 2) else nI (s * R * C) - 1 - nI (q / 2)) := rfl
        rw [this, hA]
      · rw [if_pos (by rw [nl_4, nI_eq (by omega) (by omega)]; exact c4)]
        apply hans
        have : w = 0 ∨ w = 1 ∨ w = 2 ∨ w = 3 := by omega
        rcases this with z | z | z | z <;> simp [z]
end Where
