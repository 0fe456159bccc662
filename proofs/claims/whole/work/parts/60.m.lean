/-! ===== the press: its state, and a sheet ===== -/
abbrev PS : Type := (Nat → Nat) × (Nat → Nat) × (Nat → Nat) × (Nat → Nat) × (Nat → Bool) × Nat × Nat
def cnt (G : Nat → Bool) : Nat → Nat
  | 0 => 0
  | n + 1 => cnt G n + (G n).toNat
theorem cnt_c {G H : Nat → Bool} : ∀ n, (∀ k, k < n → G k = H k) → cnt G n = cnt H n
  | 0, _ => rfl
  | n + 1, e => by rw [cnt, cnt, cnt_c n (fun k hk => e k (by omega)), e n (by omega)]
theorem cnt_le {G : Nat → Bool} : ∀ n, cnt G n ≤ n
  | 0 => Nat.le_refl _
  | n + 1 => by
    have := cnt_le (G := G) n
    rw [cnt]
    cases G n <;> simp <;> omega
def sG (Z ZR aim tol spo : Nat) (key cov : Nat → Nat) (s : PS) : Bool := (decide (spo = 0) || !decide ((s.2.2.2.2.2.1 + 1) % spo = 0)) && allb (zok aim tol ZR key cov s.1 s.2.1) Z 0
def nxt (Z ZR aim tol spo : Nat) (key cov : Nat → Nat) (s : PS) : PS := (fun y => ikA (s.1 y) (s.2.1 y) (key y), fun y => ikC (s.1 y) (s.2.1 y) (key y) (cov y / ZR), fun y => ikT (s.1 y) (s.2.1 y) (key y) (cov y / ZR), fun y => s.2.2.2.1 y + ikT (s.1 y) (s.2.1 y) (key y) (cov y / ZR), fun k => if k = s.2.2.2.2.2.1 + 1 then sG Z ZR aim tol spo key cov s else s.2.2.2.2.1 k, s.2.2.2.2.2.1 + 1, s.2.2.2.2.2.2 + (sG Z ZR aim tol spo key cov s).toNat)
/-- what holds of the numbers alone -/
def QB (Z ZR aim tol spo : Nat) (key cov : Nat → Nat) (s : PS) : Prop :=
  (Z ≤ 8 ∧ (0 < Z → 0 < ZR) ∧ ZR ≤ 8 ∧ aim ≤ 4000 ∧ tol ≤ 400 ∧ spo ≤ 99) ∧ (∀ y, y < 8 → key y ≤ 255) ∧ (∀ y, y < Z → cov y ≤ 64 * ZR) ∧ s.2.2.2.2.2.1 ≤ 4000 ∧
  (∀ y, y < Z → s.1 y + s.2.1 y + s.2.2.2.1 y ≤ 4080 * s.2.2.2.2.2.1 ∧ s.2.2.1 y ≤ 4080 * s.2.2.2.2.2.1) ∧
  s.2.2.2.2.2.2 = cnt s.2.2.2.2.1 (s.2.2.2.2.2.1 + 1) ∧ s.2.2.2.2.1 0 = false ∧ ∀ k, s.2.2.2.2.2.1 < k → s.2.2.2.2.1 k = false
/-- the class's cells -/
def QC (Z ZR aim tol spo : Nat) (key cov : Nat → Nat) (s : PS) (I : pm_II) : Prop :=
  (I 39 8 = nI Z ∧ I 39 9 = nI aim ∧ I 39 10 = nI tol ∧ I 39 11 = nI spo ∧ I 39 12 = nI s.2.2.2.2.2.1 ∧ I 39 13 = nI s.2.2.2.2.2.2) ∧
  (∀ y, y < 8 → I 40 y = nI (key y)) ∧ (∀ y, y < Z → I 41 y = nI (cov y) ∧ I 42 y = nI (cov y / ZR)) ∧
  (∀ y, y < Z → I 43 y = nI (s.1 y) ∧ I 44 y = nI (s.2.1 y) ∧ I 45 y = nI (s.2.2.1 y) ∧ I 46 y = nI (s.2.2.2.1 y)) ∧
  ∀ w i, w < 126 → i < 32 → (I 47 w).toBitVec.getLsbD i = s.2.2.2.2.1 (32 * w + i)
/-- the model's -/
def QM (Z ZR aim tol spo : Nat) (key cov : Nat → Nat) (s : PS) (I : pm_II) (J : pm_JJ) : Prop :=
  (I 120 32 = nI Z ∧ I 120 33 = nI ZR ∧ I 120 34 = nI aim ∧ I 120 35 = nI tol ∧ I 120 36 = nI spo ∧ I 120 37 = nI s.2.2.2.2.2.1 ∧ I 120 38 = nI s.2.2.2.2.2.2) ∧
  (∀ y, y < 8 → I 139 y = nI (key y)) ∧ (∀ y, y < Z → I 140 y = nI (cov y)) ∧
  (∀ y, y < Z → J 143 y = lN (s.1 y) ∧ J 144 y = lN (s.2.1 y) ∧ I 141 y = nI (s.2.2.1 y) ∧ J 145 y = lN (s.2.2.2.1 y)) ∧
  ∀ k, 1 ≤ k → k ≤ s.2.2.2.2.2.1 → I 142 k = nI (cond (s.2.2.2.2.1 k) (cnt s.2.2.2.2.1 (k + 1)) 0)
section Sh
variable {u : Nat} {I : pm_II} {J : pm_JJ} {Z ZR aim tol spo : Nat} {key cov : Nat → Nat} {s : PS}
theorem QB_nxt (h : QB Z ZR aim tol spo key cov s) (hZ : 0 < Z) (hp : s.2.2.2.2.2.1 < 4000) : QB Z ZR aim tol spo key cov (nxt Z ZR aim tol spo key cov s) := by
  obtain ⟨⟨a1, a2, a3, a4, a5, a6⟩, b, c, d, e, f, g, g2⟩ := h
  refine ⟨⟨a1, a2, a3, a4, a5, a6⟩, b, c, ?_, fun y hy => ?_, ?_, ?_, fun k hk => ?_⟩
  · show s.2.2.2.2.2.1 + 1 ≤ 4000
    omega
  · show ikA (s.1 y) (s.2.1 y) (key y) + ikC (s.1 y) (s.2.1 y) (key y) (cov y / ZR) + (s.2.2.2.1 y + ikT (s.1 y) (s.2.1 y) (key y) (cov y / ZR)) ≤ 4080 * (s.2.2.2.2.2.1 + 1) ∧ ikT (s.1 y) (s.2.1 y) (key y) (cov y / ZR) ≤ 4080 * (s.2.2.2.2.2.1 + 1)
    have hs := dv64 (c y hy) (a2 hZ)
    obtain ⟨l1, l2, l3⟩ := ik_le (A := s.1 y) (B := s.2.1 y) (k := key y) hs
    have := b y (by omega)
    have := e y hy
    omega
  · show s.2.2.2.2.2.2 + (sG Z ZR aim tol spo key cov s).toNat = cnt (fun k => if k = s.2.2.2.2.2.1 + 1 then sG Z ZR aim tol spo key cov s else s.2.2.2.2.1 k) (s.2.2.2.2.2.1 + 1 + 1)
    rw [cnt, if_pos rfl, f]
    congr 1
    apply cnt_c
    intro k hk
    rw [if_neg (by omega)]
  · show (if 0 = s.2.2.2.2.2.1 + 1 then sG Z ZR aim tol spo key cov s else s.2.2.2.2.1 0) = false
    rw [if_neg (by omega)]; exact g
  · show (if k = s.2.2.2.2.2.1 + 1 then sG Z ZR aim tol spo key cov s else s.2.2.2.2.1 k) = false
    have hk2 : s.2.2.2.2.2.1 + 1 < k := hk
    rw [if_neg (by omega)]; exact g2 k (by omega)
theorem bit_set {x : Int32} {k i : Nat} (hk : k < 32) (hi : i < 32) : (x ||| ((1 : Int32) <<< (nI k &&& 31))).toBitVec.getLsbD i = (x.toBitVec.getLsbD i || decide (i = k)) := by
  have e1 : nI k &&& 31 = nI k := by
    rw [pk_andN (by omega) 5 (by decide), Nat.mod_eq_of_lt (by omega)]
  have e2 : ((nI k).toBitVec.smod 32).toNat = k := by
    have : ∀ j : Fin 32, ((nI j.val).toBitVec.smod 32).toNat = j.val := by decide +kernel
    exact this ⟨k, hk⟩
  rw [e1, Int32.toBitVec_or, BitVec.getLsbD_or]
  congr 1
  show ((1 : Int32).toBitVec <<< ((nI k).toBitVec.smod 32).toNat).getLsbD i = _
  rw [e2, BitVec.getLsbD_shiftLeft]
  have o : ∀ j : Nat, ((1 : Int32).toBitVec).getLsbD j = decide (j = 0) := by
    intro j
    show (1#32).getLsbD j = _
    rw [BitVec.getLsbD_one]
    simp
  rw [o]
  by_cases c : i < k
  · simp [c, hi]; omega
  · simp [c, hi]; omega
theorem c_sheet (hu : 20 ≤ u) (hb : QB Z ZR aim tol spo key cov s) (h : QC Z ZR aim tol spo key cov s I) (hZ : 0 < Z) (hp : s.2.2.2.2.2.1 < 4000) : ∃ I2, F_Pr_printSheet u I J = some ((), I2, J) ∧ QC Z ZR aim tol spo key cov (nxt Z ZR aim tol spo key cov s) I2 ∧ On (fun c _ => 39 ≤ c ∧ c ≤ 47) I I2 := by
  obtain ⟨⟨a1, a2, a3, a4, a5, a6⟩, b, c, d, e, f, g, g2⟩ := hb
  obtain ⟨⟨h1, h2, h3, h4, h5, h6⟩, hk, hc, hf, hbit⟩ := h
  have hgd : s.2.2.2.2.2.2 ≤ 4001 := by
    have := cnt_le (G := s.2.2.2.2.1) (s.2.2.2.2.2.1 + 1)
    omega
  obtain ⟨I1, N2, i0, i1, i2, i3⟩ := c_sheet4 (u := u) (J := J) (aim := aim) (tol := tol) (ZR := ZR) (key := key) (cov := cov) (A := s.1) (B := s.2.1) (P := s.2.2.2.1) a1 (a2 hZ) a3 a4 a5 Z 0 u I true (by omega) (by omega) h1 h2 h3 (fun y hy => ⟨hk y (by omega), b y (by omega), (hc y hy).1, c y hy, (hc y hy).2⟩) (fun y _ hy => ⟨(hf y hy).1, (hf y hy).2.1, (hf y hy).2.2.2, by have := e y hy; have := b y (by omega); omega⟩)
  obtain ⟨N2, rfl⟩ : ∃ w, N2 = w + 1 := ⟨N2 - 1, by omega⟩
  rw [Bool.true_and] at i1
  have o39 : ∀ k, I1 39 k = I 39 k := fun k => i3 39 k (by omega)
  generalize hall : allb (zok aim tol ZR key cov s.1 s.2.1) Z 0 = al at *
  generalize hpr : s.2.2.2.2.2.1 = pr at *
  have hsG : sG Z ZR aim tol spo key cov s = ((decide (spo = 0) || !decide ((pr + 1) % spo = 0)) && al) := by unfold sG; rw [hall, hpr]
  have e86 : F_Pr_printSheet u I J = F_Pr_printSheet_86 u (b2i (sG Z ZR aim tol spo key cov s)) (pm_up I1 39 12 (nI (pr + 1))) J := by
    unfold F_Pr_printSheet
    refine i1.trans ?_
    rw [F_Pr_printSheet_4, o39, o39, o39, h1, h4, h5, nI_1, if_pos (by rw [nI_leI (by omega) (by omega)]; omega), hsG]
    by_cases q : spo = 0
    · subst q
      rw [if_pos (by decide), decide_eq_true rfl]; rfl
    · rw [nl_0, if_neg (by rw [nI_leI (by omega) (by omega)]; omega), if_pos (by rw [nI_eq (by omega) (by omega)]; omega), pk_rem (by omega) (by omega) (by omega), decide_eq_false q]
      by_cases q2 : (pr + 1) % spo = 0
      · rw [if_neg (by rw [q2]; simp), decide_eq_true q2]; rfl
      · have : (pr + 1) % spo < spo := Nat.mod_lt _ (by omega)
        rw [if_pos (by rw [nI_eq (by omega) (by omega)]; exact q2), decide_eq_false q2]
        cases al <;> rfl
  rw [e86]
  unfold F_Pr_printSheet_86 F_Pr_printSheet_108
  rw [b2i_if0]
  have nx : nxt Z ZR aim tol spo key cov s = (fun y => ikA (s.1 y) (s.2.1 y) (key y), fun y => ikC (s.1 y) (s.2.1 y) (key y) (cov y / ZR), fun y => ikT (s.1 y) (s.2.1 y) (key y) (cov y / ZR), fun y => s.2.2.2.1 y + ikT (s.1 y) (s.2.1 y) (key y) (cov y / ZR), fun k => if k = pr + 1 then sG Z ZR aim tol spo key cov s else s.2.2.2.2.1 k, pr + 1, s.2.2.2.2.2.2 + (sG Z ZR aim tol spo key cov s).toNat) := by unfold nxt; rw [hpr]
  rw [nx]
  cases hg : sG Z ZR aim tol spo key cov s with
  | false =>
    refine ⟨_, rfl, ⟨⟨?_, ?_, ?_, ?_, ?_, ?_⟩, fun y hy => ?_, fun y hy => ?_, fun y hy => ?_, fun w i hw hi => ?_⟩, ?_⟩
    · rw [ur, if_neg (by omega), o39]; exact h1
    · rw [ur, if_neg (by omega), o39]; exact h2
    · rw [ur, if_neg (by omega), o39]; exact h3
    · rw [ur, if_neg (by omega), o39]; exact h4
    · rw [ur, if_pos ⟨rfl, rfl⟩]
    · rw [ur, if_neg (by omega), o39]; exact h6
    · rw [ur, if_neg (by omega), i3 40 y (by omega)]; exact hk y hy
    · rw [ur, if_neg (by omega), ur, if_neg (by omega), i3 41 y (by omega), i3 42 y (by omega)]; exact hc y hy
    · rw [ur, if_neg (by omega), ur, if_neg (by omega), ur, if_neg (by omega), ur, if_neg (by omega)]; exact i2 y (by omega) hy
    · rw [ur, if_neg (by omega), i3 47 w (by omega), hbit w i hw hi]
      dsimp only
      split
      · rename_i q; rw [q]; exact g2 _ (by omega)
      · rfl
    · exact On.up (i3.mono (fun c k hc => by omega)) (by omega)
  | true =>
    have z39 : (pm_up I1 39 12 (nI (pr + 1))) 39 13 = nI s.2.2.2.2.2.2 := by rw [ur, if_neg (by omega), o39]; exact h6
    have z12 : (pm_up I1 39 12 (nI (pr + 1))) 39 12 = nI (pr + 1) := by rw [ur, if_pos ⟨rfl, rfl⟩]
    unfold F_Pr_noteGood
    rw [z39, z12, nI_1, if_neg (nI_pos (by omega)), show (4000 : Int32) = nI 4000 from rfl, if_neg (by rw [nI_ltI (by omega) (by omega)]; omega), nl_32, pk_rem (by omega) (by omega) (by omega), pk_div (by omega) (by omega) (by omega), vqT (show (pr + 1) / 32 < 126 by omega) (by omega), nI_clamp (by omega)]
    simp only [cond_true, bd_s, cond_true]
    refine ⟨_, rfl, ⟨⟨?_, ?_, ?_, ?_, ?_, ?_⟩, fun y hy => ?_, fun y hy => ?_, fun y hy => ?_, fun w i hw hi => ?_⟩, ?_⟩
    · rw [ur, if_neg (by omega), ur, if_neg (by omega), ur, if_neg (by omega), o39]; exact h1
    · rw [ur, if_neg (by omega), ur, if_neg (by omega), ur, if_neg (by omega), o39]; exact h2
    · rw [ur, if_neg (by omega), ur, if_neg (by omega), ur, if_neg (by omega), o39]; exact h3
    · rw [ur, if_neg (by omega), ur, if_neg (by omega), ur, if_neg (by omega), o39]; exact h4
    · rw [ur, if_neg (by omega), ur, if_neg (by omega), ur, if_pos ⟨rfl, rfl⟩]
    · rw [ur, if_neg (by omega), ur, if_pos ⟨rfl, rfl⟩]; rfl
    · rw [ur, if_neg (by omega), ur, if_neg (by omega), ur, if_neg (by omega), i3 40 y (by omega)]; exact hk y hy
    · rw [ur, if_neg (by omega), ur, if_neg (by omega), ur, if_neg (by omega), ur, if_neg (by omega), ur, if_neg (by omega), ur, if_neg (by omega), i3 41 y (by omega), i3 42 y (by omega)]; exact hc y hy
    · simp only [ur, Nat.reduceEqDiff, false_and, if_false]; exact i2 y (by omega) hy
    · have e47 : ∀ w, (pm_up (pm_up I1 39 12 (nI (pr + 1))) 39 13 (nI (s.2.2.2.2.2.2 + 1))) 47 w = I 47 w := fun w => by rw [ur, if_neg (by omega), ur, if_neg (by omega), i3 47 w (by omega)]
      dsimp only
      by_cases q : w = (pr + 1) / 32
      · subst q
        rw [ur, if_pos ⟨rfl, rfl⟩, e47, bit_set (by omega) hi, hbit _ i hw hi]
        by_cases q2 : i = (pr + 1) % 32
        · rw [if_pos (by omega), decide_eq_true q2, Bool.or_true]
        · rw [if_neg (by omega), decide_eq_false q2, Bool.or_false]
      · rw [ur, if_neg (fun z => q z.2), e47, hbit w i hw hi, if_neg (by omega)]
    · refine On.up (On.up (On.up (i3.mono (fun c k hc => by omega)) ?_) ?_) ?_ <;> omega
theorem m_sheet (hu : 20 ≤ u) (hb : QB Z ZR aim tol spo key cov s) (h : QM Z ZR aim tol spo key cov s I J) (hZ : 0 < Z) (hp : s.2.2.2.2.2.1 < 4000) : ∃ I2 J2, F_Mo_sheet u I J = some (b2i (sG Z ZR aim tol spo key cov s), I2, J2) ∧ QM Z ZR aim tol spo key cov (nxt Z ZR aim tol spo key cov s) I2 J2 ∧ On (fun c k => (c = 120 ∧ (k = 37 ∨ k = 38)) ∨ c = 141 ∨ c = 142) I I2 ∧ On (fun c k => (143 ≤ c ∧ c ≤ 145) ∨ (c = 120 ∧ (k = 46 ∨ k = 47))) J J2 := by
  obtain ⟨⟨a1, a2, a3, a4, a5, a6⟩, b, c, d, e, f, g, g2⟩ := hb
  obtain ⟨⟨h1, h2, h3, h4, h5, h6, h7⟩, hk, hc, hf, hnum⟩ := h
  have hgd : s.2.2.2.2.2.2 ≤ 4001 := by
    have := cnt_le (G := s.2.2.2.2.1) (s.2.2.2.2.2.1 + 1)
    omega
  generalize hpr : s.2.2.2.2.2.1 = pr at *
  obtain ⟨I1, J1, N2, i0, i1, i2, i3, i4⟩ := m_sheet37 (u := u) (aim := aim) (tol := tol) (ZR := ZR) (key := key) (cov := cov) (A := s.1) (B := s.2.1) (P := s.2.2.2.1) a1 (a2 hZ) a3 a4 a5 Z 0 u (pm_up I 120 37 (nI (pr + 1))) J (decide (spo = 0) || !decide ((pr + 1) % spo = 0)) (by omega) (by omega) h1 h2 h3 h4 (fun y hy => ⟨hk y (by omega), b y (by omega), hc y hy, c y hy⟩) (fun y _ hy => ⟨(hf y hy).1, (hf y hy).2.1, (hf y hy).2.2.2, by have := e y hy; have := b y (by omega); omega⟩)
  obtain ⟨N2, rfl⟩ : ∃ w, N2 = w + 1 := ⟨N2 - 1, by omega⟩
  have hsG : sG Z ZR aim tol spo key cov s = ((decide (spo = 0) || !decide ((pr + 1) % spo = 0)) && allb (zok aim tol ZR key cov s.1 s.2.1) Z 0) := by unfold sG; rw [hpr]
  rw [← hsG] at i1
  have o120 : ∀ k, k ≠ 37 → I1 120 k = I 120 k := fun k hk => by rw [i3 120 k (by omega), ur, if_neg (by omega)]
  have o37 : I1 120 37 = nI (pr + 1) := by rw [i3 120 37 (by omega), ur, if_pos ⟨rfl, rfl⟩]
  have e37 : F_Mo_sheet u I J = F_Mo_sheet_37 u (N2 + 1) (b2i (sG Z ZR aim tol spo key cov s)) (nI Z) I1 J1 := by
    rw [← i1]
    unfold F_Mo_sheet
    rw [h5, h6, nI_1]
    by_cases q : spo = 0
    · subst q
      rw [if_pos (by decide), decide_eq_true rfl]; rfl
    · have n0 : ¬ nI spo = 0 := by rw [i0_iff (by omega)]; exact q
      rw [if_neg n0, if_pos n0, pk_rem (by omega) (by omega) (by omega), decide_eq_false q]
      by_cases q2 : (pr + 1) % spo = 0
      · rw [if_pos (by rw [q2]; rfl), decide_eq_true q2]; rfl
      · have : (pr + 1) % spo < spo := Nat.mod_lt _ (by omega)
        rw [if_neg (by rw [i0_iff (by omega)]; exact q2), decide_eq_false q2]; rfl
  have nx : nxt Z ZR aim tol spo key cov s = (fun y => ikA (s.1 y) (s.2.1 y) (key y), fun y => ikC (s.1 y) (s.2.1 y) (key y) (cov y / ZR), fun y => ikT (s.1 y) (s.2.1 y) (key y) (cov y / ZR), fun y => s.2.2.2.1 y + ikT (s.1 y) (s.2.1 y) (key y) (cov y / ZR), fun k => if k = pr + 1 then sG Z ZR aim tol spo key cov s else s.2.2.2.2.1 k, pr + 1, s.2.2.2.2.2.2 + (sG Z ZR aim tol spo key cov s).toNat) := by unfold nxt; rw [hpr]
  rw [e37, nx, F_Mo_sheet_37, o120 32 (by omega), h1, if_pos (by rw [nI_leI (by omega) (by omega)]; omega), o120 38 (by omega), h7]
  generalize sG Z ZR aim tol spo key cov s = sg
  have e175 : (if b2i sg = 0 then F_Mo_sheet_175 u (b2i sg) (nI s.2.2.2.2.2.2) 0 I1 J1 else F_Mo_sheet_175 u (b2i sg) (nI s.2.2.2.2.2.2) 1 I1 J1) = some (b2i sg, pm_up (pm_up I1 120 38 (nI (s.2.2.2.2.2.2 + sg.toNat))) 142 (pr + 1) (nI (cond sg (s.2.2.2.2.2.2 + 1) 0)), J1) := by
    unfold F_Mo_sheet_175
    have c4 : ¬ (4000 : Int32) < nI (pr + 1) := by rw [show (4000 : Int32) = nI 4000 from rfl, nI_ltI (by omega) (by omega)]; omega
    rw [o37, vqT (show pr + 1 < 4001 by omega) (by omega), nI_clamp (by omega)]
    simp only [c4, if_false]
    cases sg
    · show some (_, pm_up (pm_up I1 120 38 (nI s.2.2.2.2.2.2 + 0)) 142 (pr + 1) 0, J1) = _
      rw [nl_0, nI_add]; rfl
    · show some (_, pm_up (pm_up I1 120 38 (nI s.2.2.2.2.2.2 + 1)) 142 (pr + 1) (nI s.2.2.2.2.2.2 + 1), J1) = _
      rw [nI_1]; rfl
  rw [e175]
  have hcc : cnt (fun k => if k = pr + 1 then sg else s.2.2.2.2.1 k) (pr + 1 + 1) = s.2.2.2.2.2.2 + sg.toNat := by
    rw [cnt, if_pos rfl, f]
    congr 1
    apply cnt_c
    intro k hk
    rw [if_neg (by omega)]
  have onI : On (fun c k => (c = 120 ∧ (k = 37 ∨ k = 38)) ∨ c = 141 ∨ c = 142) I I1 := (On.up (On.refl _) (by omega)).trans (i3.mono (fun c k hc => by omega))
  have onJ : On (fun c k => (143 ≤ c ∧ c ≤ 145) ∨ (c = 120 ∧ (k = 46 ∨ k = 47))) J J1 := i4.mono (fun c k hc => by omega)
  refine ⟨_, J1, rfl, ⟨⟨?_, ?_, ?_, ?_, ?_, ?_, ?_⟩, fun y hy => ?_, fun y hy => ?_, fun y hy => ?_, fun k hk1 hk2 => ?_⟩, ?_, onJ⟩
  · simp only [ur, Nat.reduceEqDiff, false_and, and_false, if_false]; rw [o120 32 (by omega)]; exact h1
  · simp only [ur, Nat.reduceEqDiff, false_and, and_false, if_false]; rw [o120 33 (by omega)]; exact h2
  · simp only [ur, Nat.reduceEqDiff, false_and, and_false, if_false]; rw [o120 34 (by omega)]; exact h3
  · simp only [ur, Nat.reduceEqDiff, false_and, and_false, if_false]; rw [o120 35 (by omega)]; exact h4
  · simp only [ur, Nat.reduceEqDiff, false_and, and_false, if_false]; rw [o120 36 (by omega)]; exact h5
  · simp only [ur, Nat.reduceEqDiff, false_and, and_false, if_false]; exact o37
  · simp only [ur, Nat.reduceEqDiff, false_and, and_false, if_false, and_self, if_true]
  · simp only [ur, Nat.reduceEqDiff, false_and, and_false, if_false]; rw [i3 139 y (by omega)]; exact hk y hy
  · simp only [ur, Nat.reduceEqDiff, false_and, and_false, if_false]; rw [i3 140 y (by omega)]; exact hc y hy
  · simp only [ur, Nat.reduceEqDiff, false_and, and_false, if_false]; exact i2 y (by omega) hy
  · dsimp only at hk2 ⊢
    rw [ur]
    by_cases q : k = pr + 1
    · subst q
      rw [if_pos ⟨rfl, rfl⟩, if_pos rfl, hcc]
      cases sg <;> rfl
    · rw [if_neg (fun z => q z.2), ur, if_neg (by omega), if_neg q]
      rw [i3 142 k (by omega), ur, if_neg (by omega), hnum k hk1 (by omega)]
      congr 2
      apply cnt_c
      intro j hj
      rw [if_neg (by omega)]
  · refine On.up (On.up onI ?_) ?_ <;> omega
end Sh
