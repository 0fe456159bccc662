/-! ===== Int32 as numbers ===== -/
theorem nl_0 : (0 : Int32) = nI 0 := rfl
theorem nl_1 : (1 : Int32) = nI 1 := rfl
theorem nl_2 : (2 : Int32) = nI 2 := rfl
theorem nl_3 : (3 : Int32) = nI 3 := rfl
theorem nl_4 : (4 : Int32) = nI 4 := rfl
theorem nl_5 : (5 : Int32) = nI 5 := rfl
theorem nl_6 : (6 : Int32) = nI 6 := rfl
theorem nl_7 : (7 : Int32) = nI 7 := rfl
theorem nl_8 : (8 : Int32) = nI 8 := rfl
theorem nl_9 : (9 : Int32) = nI 9 := rfl
theorem nl_10 : (10 : Int32) = nI 10 := rfl
theorem nl_11 : (11 : Int32) = nI 11 := rfl
theorem nl_12 : (12 : Int32) = nI 12 := rfl
theorem nl_13 : (13 : Int32) = nI 13 := rfl
theorem nl_14 : (14 : Int32) = nI 14 := rfl
theorem nl_15 : (15 : Int32) = nI 15 := rfl
theorem nl_16 : (16 : Int32) = nI 16 := rfl
theorem nl_17 : (17 : Int32) = nI 17 := rfl
theorem nl_18 : (18 : Int32) = nI 18 := rfl
theorem nl_19 : (19 : Int32) = nI 19 := rfl
theorem nl_20 : (20 : Int32) = nI 20 := rfl
theorem nl_21 : (21 : Int32) = nI 21 := rfl
theorem nl_22 : (22 : Int32) = nI 22 := rfl
theorem nl_23 : (23 : Int32) = nI 23 := rfl
theorem nl_24 : (24 : Int32) = nI 24 := rfl
theorem nl_25 : (25 : Int32) = nI 25 := rfl
theorem nl_26 : (26 : Int32) = nI 26 := rfl
theorem nl_27 : (27 : Int32) = nI 27 := rfl
theorem nl_28 : (28 : Int32) = nI 28 := rfl
theorem nl_29 : (29 : Int32) = nI 29 := rfl
theorem nl_30 : (30 : Int32) = nI 30 := rfl
theorem nl_31 : (31 : Int32) = nI 31 := rfl
theorem nl_32 : (32 : Int32) = nI 32 := rfl
theorem nl_33 : (33 : Int32) = nI 33 := rfl
theorem nl_34 : (34 : Int32) = nI 34 := rfl
theorem nl_35 : (35 : Int32) = nI 35 := rfl
theorem nl_36 : (36 : Int32) = nI 36 := rfl
theorem nl_37 : (37 : Int32) = nI 37 := rfl
theorem nl_38 : (38 : Int32) = nI 38 := rfl
theorem nl_39 : (39 : Int32) = nI 39 := rfl
theorem nl_40 : (40 : Int32) = nI 40 := rfl
theorem nl_41 : (41 : Int32) = nI 41 := rfl
theorem nl_42 : (42 : Int32) = nI 42 := rfl
theorem nl_43 : (43 : Int32) = nI 43 := rfl
theorem nl_44 : (44 : Int32) = nI 44 := rfl
theorem nl_45 : (45 : Int32) = nI 45 := rfl
theorem nl_46 : (46 : Int32) = nI 46 := rfl
theorem nl_47 : (47 : Int32) = nI 47 := rfl
theorem nl_48 : (48 : Int32) = nI 48 := rfl
theorem nl_49 : (49 : Int32) = nI 49 := rfl
theorem nl_50 : (50 : Int32) = nI 50 := rfl
theorem nl_51 : (51 : Int32) = nI 51 := rfl
theorem nl_52 : (52 : Int32) = nI 52 := rfl
theorem nl_53 : (53 : Int32) = nI 53 := rfl
theorem nl_54 : (54 : Int32) = nI 54 := rfl
theorem nl_55 : (55 : Int32) = nI 55 := rfl
theorem nl_56 : (56 : Int32) = nI 56 := rfl
theorem nl_57 : (57 : Int32) = nI 57 := rfl
theorem nl_58 : (58 : Int32) = nI 58 := rfl
theorem nl_59 : (59 : Int32) = nI 59 := rfl
theorem nl_60 : (60 : Int32) = nI 60 := rfl
theorem nl_61 : (61 : Int32) = nI 61 := rfl
theorem nl_62 : (62 : Int32) = nI 62 := rfl
theorem nl_63 : (63 : Int32) = nI 63 := rfl
theorem nl_64 : (64 : Int32) = nI 64 := rfl
theorem nl_65 : (65 : Int32) = nI 65 := rfl
theorem nl_96 : (96 : Int32) = nI 96 := rfl
theorem nl_97 : (97 : Int32) = nI 97 := rfl
theorem nl_99 : (99 : Int32) = nI 99 := rfl
theorem nl_100 : (100 : Int32) = nI 100 := rfl
theorem nl_116 : (116 : Int32) = nI 116 := rfl
theorem nl_120 : (120 : Int32) = nI 120 := rfl
theorem nl_122 : (122 : Int32) = nI 122 := rfl
theorem nl_155 : (155 : Int32) = nI 155 := rfl
theorem nl_200 : (200 : Int32) = nI 200 := rfl
theorem nl_255 : (255 : Int32) = nI 255 := rfl
theorem nl_256 : (256 : Int32) = nI 256 := rfl
theorem nl_400 : (400 : Int32) = nI 400 := rfl
theorem nl_500 : (500 : Int32) = nI 500 := rfl
theorem nl_512 : (512 : Int32) = nI 512 := rfl
theorem nl_600 : (600 : Int32) = nI 600 := rfl
theorem nl_624 : (624 : Int32) = nI 624 := rfl
theorem nl_625 : (625 : Int32) = nI 625 := rfl
theorem nl_999 : (999 : Int32) = nI 999 := rfl
theorem nl_1000 : (1000 : Int32) = nI 1000 := rfl
theorem nl_1600 : (1600 : Int32) = nI 1600 := rfl
theorem nl_4000 : (4000 : Int32) = nI 4000 := rfl
theorem nI_io1 : Int32.ofInt 1 = nI 1 := rfl
theorem nI_iom1 : Int32.ofInt (-1) = (-1 : Int32) := rfl
theorem nI_iom8 : Int32.ofInt (-8) = (-8 : Int32) := rfl
theorem vq_nI {j n : Nat} (h : j < 2 ^ 31) : vq (nI j) n = decide (j < n) := by
  unfold vq
  rw [nI_clamp h]
  have h1 : ¬ nI j < 0 := nI_pos h
  simp only [h1, decide_false, Bool.false_or]
  by_cases h2 : j < n
  · have : ¬ n ≤ j := by omega
    simp [h2, this]
  · have : n ≤ j := by omega
    simp [h2, this]
theorem nI_sub2 {a b : Nat} (h : b ≤ a) : nI a - nI b = nI (a - b) := pk_sub h
theorem nI_m1 {e : Nat} (h : e < 2 ^ 31) : ¬ nI e = -1 := by
  intro z
  have := nI_toInt h
  rw [z] at this
  have h2 : ((-1 : Int32)).toInt = -1 := by decide
  omega
theorem i0_iff {d : Nat} (h : d < 2 ^ 31) : nI d = 0 ↔ d = 0 := by
  rw [← nI_0, nI_eq h (by decide)]
/-- truth as an int -/
def b2i (b : Bool) : Int32 := cond b 1 0
theorem b2i_0 {b : Bool} : b2i b = 0 ↔ b = false := by cases b <;> simp [b2i]
theorem b2i_1 {b : Bool} : b2i b = 1 ↔ b = true := by cases b <;> simp [b2i]
theorem b2i_01 {b : Bool} : (b2i b = 0 ∨ b2i b = 1) := by cases b <;> simp [b2i]
/-- a fault's place, or none -/
def er (e : Option Nat) : Int32 := match e with
  | none => -1
  | some x => nI x
theorem er_m1 {e : Option Nat} (h : ∀ x, e = some x → x < 2 ^ 31) : er e = -1 ↔ e = none := by
  cases e with
  | none => simp [er]
  | some x => simp [er, nI_m1 (h x rfl)]
theorem er_neg {e : Option Nat} (h : ∀ x, e = some x → x < 2 ^ 31) : er e < 0 ↔ e = none := by
  cases e with
  | none => simp [er]
  | some x => simp [er]; exact Int32.not_lt.mp (nI_pos (h x rfl))
/-- the tape's own three fields -/
def T3 (I : pm_II) (a f w : Int32) : pm_II := fun c => cond (Nat.beq c 17) (fun k => if k = 2 then a else if k = 3 then f else if k = 4 then w else I 17 k) (I c)
theorem T3_w {I : pm_II} {a f w v : Int32} : pm_up (T3 I a f w) 17 4 v = T3 I a f v := by
  funext c k
  by_cases hc : c = 17
  · subst hc
    simp only [pm_up, T3, nb_t, cond_true]
    by_cases h4 : k = 4
    · subst h4; rfl
    · simp [h4]
  · simp only [pm_up, T3, nb_f hc, cond_false]
theorem T3_a {I : pm_II} {a f w v : Int32} : pm_up (T3 I a f w) 17 2 v = T3 I v f w := by
  funext c k
  by_cases hc : c = 17
  · subst hc
    simp only [pm_up, T3, nb_t, cond_true]
    by_cases h4 : k = 2
    · subst h4; rfl
    · simp [h4]
  · simp only [pm_up, T3, nb_f hc, cond_false]
theorem T3_f {I : pm_II} {a f w v : Int32} : pm_up (T3 I a f w) 17 3 v = T3 I a v w := by
  funext c k
  by_cases hc : c = 17
  · subst hc
    simp only [pm_up, T3, nb_t, cond_true]
    by_cases h4 : k = 3
    · subst h4; rfl
    · simp [h4]
  · simp only [pm_up, T3, nb_f hc, cond_false]
theorem T3_o {I : pm_II} {a f w v : Int32} {c j : Nat} (hc : c ≠ 17) : pm_up (T3 I a f w) c j v = T3 (pm_up I c j v) a f w := by
  funext d k
  by_cases hd : d = 17
  · subst hd
    have : Nat.beq 17 c = false := nb_f (Ne.symm hc)
    simp only [pm_up, T3, nb_t, cond_true, this, cond_false]
  · by_cases hdc : d = c
    · subst hdc
      simp only [pm_up, T3, nb_t, cond_true, nb_f hd, cond_false]
    · simp only [pm_up, T3, nb_f hd, nb_f hdc, cond_false]
theorem T3_1 {I : pm_II} {a f w v : Int32} : pm_up (T3 I a f w) 17 1 v = T3 (pm_up I 17 1 v) a f w := by
  funext c k
  by_cases hc : c = 17
  · subst hc
    simp only [pm_up, T3, nb_t, cond_true]
    by_cases h1 : k = 1
    · subst h1; simp
    · simp [h1]
  · simp only [pm_up, T3, nb_f hc, cond_false]
theorem T3_id (I : pm_II) : T3 I (I 17 2) (I 17 3) (I 17 4) = I := by
  funext c k
  by_cases hc : c = 17
  · subst hc
    simp only [T3, nb_t, cond_true]
    by_cases h2 : k = 2
    · subst h2; rfl
    · by_cases h3 : k = 3
      · subst h3; rfl
      · by_cases h4 : k = 4
        · subst h4; rfl
        · simp [h2, h3, h4]
  · simp only [T3, nb_f hc, cond_false]
/-- the model's reader: its place and its fault -/
def M2 (I : pm_II) (a w : Int32) : pm_II := fun c => cond (Nat.beq c 120) (fun k => if k = 4 then a else if k = 5 then w else I 120 k) (I c)
theorem M2_a {I : pm_II} {a w v : Int32} : pm_up (M2 I a w) 120 4 v = M2 I v w := by
  funext c k
  by_cases hc : c = 120
  · subst hc
    simp only [pm_up, M2, nb_t, cond_true]
    by_cases h4 : k = 4
    · subst h4; rfl
    · simp [h4]
  · simp only [pm_up, M2, nb_f hc, cond_false]
theorem M2_w {I : pm_II} {a w v : Int32} : pm_up (M2 I a w) 120 5 v = M2 I a v := by
  funext c k
  by_cases hc : c = 120
  · subst hc
    simp only [pm_up, M2, nb_t, cond_true]
    by_cases h4 : k = 5
    · subst h4; rfl
    · simp [h4]
  · simp only [pm_up, M2, nb_f hc, cond_false]
theorem M2_o {I : pm_II} {a w v : Int32} {c j : Nat} (hc : c ≠ 120) : pm_up (M2 I a w) c j v = M2 (pm_up I c j v) a w := by
  funext d k
  by_cases hd : d = 120
  · subst hd
    have : Nat.beq 120 c = false := nb_f (Ne.symm hc)
    simp only [pm_up, M2, nb_t, cond_true, this, cond_false]
  · by_cases hdc : d = c
    · subst hdc
      simp only [pm_up, M2, nb_t, cond_true, nb_f hd, cond_false]
    · simp only [pm_up, M2, nb_f hd, nb_f hdc, cond_false]
theorem M2_k {I : pm_II} {a w v : Int32} {j : Nat} (h4 : j ≠ 4) (h5 : j ≠ 5) : pm_up (M2 I a w) 120 j v = M2 (pm_up I 120 j v) a w := by
  funext d k
  by_cases hd : d = 120
  · subst hd
    simp only [pm_up, M2, nb_t, cond_true]
    by_cases hk : k = j
    · subst hk; simp [h4, h5]
    · simp [hk]
  · simp only [pm_up, M2, nb_f hd, cond_false]
theorem M2_id (I : pm_II) : M2 I (I 120 4) (I 120 5) = I := by
  funext c k
  by_cases hc : c = 120
  · subst hc
    simp only [M2, nb_t, cond_true]
    by_cases h2 : k = 4
    · subst h2; rfl
    · by_cases h3 : k = 5
      · subst h3; rfl
      · simp [h2, h3]
  · simp only [M2, nb_f hc, cond_false]
/-- the reader of the class, of the model -/
abbrev tc (I : pm_II) (p f : Nat) (e : Option Nat) : pm_II := T3 I (nI p) (nI f) (er e)
abbrev mc (I : pm_II) (p : Nat) (e : Option Nat) : pm_II := M2 I (nI p) (er e)
def Tb (b : Nat → Int32) (n : Nat) (I : pm_II) : Prop := (∀ j, j < n → I 18 j = b j) ∧ I 17 1 = nI n ∧ n ≤ 1600
def Mb (b : Nat → Int32) (n : Nat) (I : pm_II) : Prop := (∀ j, j < n → I 122 j = b j) ∧ I 120 3 = nI n ∧ n ≤ 1600
/-- a state of reading that is sound -/
def Ok (n p : Nat) (e : Option Nat) : Prop := p ≤ n ∧ ∀ x, e = some x → x ≤ n
theorem Tb.put {b : Nat → Int32} {n : Nat} {I : pm_II} (h : Tb b n I) {c j : Nat} {v : Int32} (h17 : c ≠ 17) (h18 : c ≠ 18) : Tb b n (pm_up I c j v) := by
  refine ⟨?_, ?_, h.2.2⟩
  · rw [pm_up_ne (Ne.symm h18)]; exact h.1
  · rw [pm_up_ne (Ne.symm h17)]; exact h.2.1
theorem Mb.put {b : Nat → Int32} {n : Nat} {I : pm_II} (h : Mb b n I) {c j : Nat} {v : Int32} (h17 : c ≠ 120) (h18 : c ≠ 122) : Mb b n (pm_up I c j v) := by
  refine ⟨?_, ?_, h.2.2⟩
  · rw [pm_up_ne (Ne.symm h18)]; exact h.1
  · rw [pm_up_ne (Ne.symm h17)]; exact h.2.1
theorem Mb.putk {b : Nat → Int32} {n : Nat} {I : pm_II} (h : Mb b n I) {j : Nat} {v : Int32} (h3 : j ≠ 3) : Mb b n (pm_up I 120 j v) := by
  refine ⟨?_, ?_, h.2.2⟩
  · rw [pm_up_ne (by decide)]; exact h.1
  · rw [pm_up_eq]; show (if 3 = j then v else I 120 3) = nI n
    rw [if_neg (Ne.symm h3)]; exact h.2.1
/-- the byte to be read -/
def q_nx (b : Nat → Int32) (n p : Nat) (e : Option Nat) : Int32 := if e = none ∧ p < n then b p else -1
def q_bl (e : Option Nat) (x : Nat) : Option Nat := match e with
  | none => some x
  | some y => some y
def q_tk (b : Nat → Int32) (n p : Nat) (e : Option Nat) (c : Int32) : Bool := decide (e = none ∧ p < n ∧ b p = c)
/-- expect: place and fault behind it -/
def q_exP (b : Nat → Int32) (n p : Nat) (e : Option Nat) (c : Int32) : Nat := if q_tk b n p e c = true then p + 1 else p
def q_exE (b : Nat → Int32) (n p : Nat) (e : Option Nat) (c : Int32) : Option Nat := if q_tk b n p e c = true then none else q_bl e p
def q_fi (n p : Nat) (e : Option Nat) : Option Nat := if p < n then q_bl e p else e
theorem Ok.x {n p : Nat} {e : Option Nat} (h : Ok n p e) (hn : n ≤ 1600) : ∀ x, e = some x → x < 2 ^ 31 := fun x hx => by
  have := h.2 x hx; omega
section ClassReader
variable {u : Nat} {I : pm_II} {J : pm_JJ} {b : Nat → Int32} {n p f : Nat} {e : Option Nat}
theorem t_isRight (ho : Ok n p e) (hb : Tb b n I) : F_Ta_isRight u (tc I p f e) J = some (b2i (decide (e = none)), tc I p f e, J) := by
  unfold F_Ta_isRight
  have h : (tc I p f e) 17 4 = er e := rfl
  rw [h]
  cases e with
  | none => rfl
  | some x => rw [if_pos (by rw [er_m1 (ho.x hb.2.2)]; simp)]; rfl
theorem t_hasMore (ho : Ok n p e) (hb : Tb b n I) : F_Ta_hasMore u (tc I p f e) J = some (b2i (decide (e = none ∧ p < n)), tc I p f e, J) := by
  unfold F_Ta_hasMore
  have h : (tc I p f e) 17 4 = er e := rfl
  have h1 : (tc I p f e) 17 1 = I 17 1 := rfl
  have h2 : (tc I p f e) 17 2 = nI p := rfl
  have hn := hb.2.2
  have hp := ho.1
  rw [h, h1, h2, hb.2.1]
  cases e with
  | none =>
    rw [if_neg (by decide)]
    simp (disch := omega) only [nI_leI]
    by_cases hc : p < n
    · rw [if_neg (by omega)]; simp [hc, b2i]
    · rw [if_pos (by omega)]; simp [hc, b2i]
  | some x => rw [if_pos (by rw [er_m1 (ho.x hb.2.2)]; simp)]; rfl
theorem t_next (ho : Ok n p e) (hb : Tb b n I) : F_Ta_next u (tc I p f e) J = some (q_nx b n p e, tc I p f e, J) := by
  unfold F_Ta_next
  have h : (tc I p f e) 17 4 = er e := rfl
  have h1 : (tc I p f e) 17 1 = I 17 1 := rfl
  have h2 : (tc I p f e) 17 2 = nI p := rfl
  have h3 : (tc I p f e) 18 = I 18 := rfl
  have hn := hb.2.2
  have hp := ho.1
  rw [h, h1, h2, h3, hb.2.1]
  cases e with
  | none =>
    rw [if_neg (by decide)]
    simp (disch := omega) only [nI_leI, nI_clamp, vq_nI]
    by_cases hc : p < n
    · rw [if_neg (by omega), hb.1 p hc]
      have : p < 1600 := by omega
      simp [hc, q_nx, this]
    · rw [if_pos (by omega)]; simp [hc, q_nx]
  | some x => rw [if_pos (by rw [er_m1 (ho.x hb.2.2)]; simp)]; simp [q_nx]
theorem t_blame {x : Nat} (ho : Ok n p e) (hb : Tb b n I) : F_Ta_blame u (nI x) (tc I p f e) J = some ((), tc I p f (q_bl e x), J) := by
  unfold F_Ta_blame
  have h : (tc I p f e) 17 4 = er e := rfl
  rw [h, T3_w]
  cases e with
  | none => rfl
  | some y => rw [if_pos (by rw [er_m1 (ho.x hb.2.2)]; simp)]; rfl
theorem t_blameToken (ho : Ok n p e) (hb : Tb b n I) : F_Ta_blameToken u (tc I p f e) J = some ((), tc I p f (q_bl e f), J) := by
  unfold F_Ta_blameToken
  have h : (tc I p f e) 17 3 = nI f := rfl
  rw [h, t_blame ho hb]
  rfl
theorem t_takes {c : Int32} (ho : Ok n p e) (hb : Tb b n I) : F_Ta_takes u c (tc I p f e) J = some (b2i (q_tk b n p e c), tc I (if q_tk b n p e c = true then p + 1 else p) f e, J) := by
  unfold F_Ta_takes
  rw [t_hasMore ho hb, bd_s]
  have h2 : (tc I p f e) 17 2 = nI p := rfl
  have h3 : (tc I p f e) 18 = I 18 := rfl
  have hn := hb.2.2
  have hp := ho.1
  simp (disch := omega) only [b2i_0, h2, h3, T3_a, nI_1, nI_clamp, vq_nI]
  by_cases hc : e = none ∧ p < n
  · have h16 : p < 1600 := by omega
    rw [if_neg (by simp [hc]), hb.1 p hc.2]
    by_cases h5 : b p = c
    · simp [h16, h5, hc, q_tk, b2i]
    · simp [h16, h5, q_tk, b2i]
  · rw [if_pos (by simpa using hc)]
    have : q_tk b n p e c = false := by
      unfold q_tk
      rw [decide_eq_false_iff_not]
      exact fun z => hc ⟨z.1, z.2.1⟩
    simp [this, b2i]
theorem Ok_tk {c : Int32} (ho : Ok n p e) : Ok n (if q_tk b n p e c = true then p + 1 else p) e := by
  refine ⟨?_, ho.2⟩
  split
  · rename_i h
    unfold q_tk at h
    have := of_decide_eq_true h
    omega
  · exact ho.1
theorem q_bl_le {x : Nat} (ho : Ok n p e) (hx : x ≤ n) : ∀ y, q_bl e x = some y → y ≤ n := by
  intro y hy
  cases e with
  | none => cases hy; exact hx
  | some z => cases hy; exact ho.2 _ rfl
theorem Ok_bl {x : Nat} (ho : Ok n p e) (hx : x ≤ n) : Ok n p (q_bl e x) := ⟨ho.1, q_bl_le ho hx⟩
theorem Ok_ex {c : Int32} (ho : Ok n p e) : Ok n (q_exP b n p e c) (q_exE b n p e c) := by
  unfold q_exP q_exE
  by_cases h : q_tk b n p e c = true
  · rw [if_pos h, if_pos h]
    unfold q_tk at h
    have := of_decide_eq_true h
    exact ⟨by omega, fun x hx => by cases hx⟩
  · rw [if_neg h, if_neg h]; exact Ok_bl ho ho.1
theorem t_expect {c : Int32} (ho : Ok n p e) (hb : Tb b n I) : F_Ta_expect u c (tc I p f e) J = some ((), tc I (q_exP b n p e c) f (q_exE b n p e c), J) := by
  unfold F_Ta_expect
  rw [t_takes ho hb, bd_s]
  simp only [b2i_0]
  unfold q_exP q_exE
  by_cases h : q_tk b n p e c = true
  · rw [if_pos (by simp [h]), if_pos h, if_pos h]
    unfold F_Ta_expect_16
    have he : e = none := by
      unfold q_tk at h
      exact (of_decide_eq_true h).1
    rw [he]
  · have h2 : q_tk b n p e c = false := by simpa using h
    rw [if_neg (by simp [h2]), if_neg h, if_neg h]
    show bd (F_Ta_blame u (nI p) (tc I p f e) J) _ = _
    rw [t_blame ho hb, bd_s]
    rfl
theorem t_finish (ho : Ok n p e) (hb : Tb b n I) : F_Ta_finish u (tc I p f e) J = some ((), tc I p f (q_fi n p e), J) := by
  unfold F_Ta_finish
  have h1 : (tc I p f e) 17 1 = I 17 1 := rfl
  have h2 : (tc I p f e) 17 2 = nI p := rfl
  have hn := hb.2.2
  have hp := ho.1
  rw [h1, h2, hb.2.1]
  simp (disch := omega) only [nI_leI]
  unfold q_fi
  by_cases h : p < n
  · rw [if_neg (by omega), if_pos h, t_blame ho hb, bd_s]; rfl
  · rw [if_pos (by omega), if_neg h]; rfl
theorem Ok_fi (ho : Ok n p e) : Ok n p (q_fi n p e) := by
  unfold q_fi
  split
  · exact Ok_bl ho ho.1
  · exact ho
theorem t_isDigit {x : Int32} : F_Ta_isDigit u x I J = some (b2i (decide (48 ≤ x ∧ x ≤ 57)), I, J) := by
  unfold F_Ta_isDigit
  by_cases h1 : x < 48
  · rw [if_pos h1]
    have : ¬ (48 ≤ x ∧ x ≤ 57) := fun q => absurd h1 (Int32.not_lt.mpr q.1)
    simp [this, b2i]
  · rw [if_neg h1]
    by_cases h2 : 57 < x
    · rw [if_pos h2]
      have : ¬ (48 ≤ x ∧ x ≤ 57) := fun q => absurd h2 (Int32.not_lt.mpr q.2)
      simp [this, b2i]
    · rw [if_neg h2]
      have : (48 ≤ x ∧ x ≤ 57) := ⟨Int32.not_lt.mp h1, Int32.not_lt.mp h2⟩
      simp [this, b2i]
theorem t_isLetter {x : Int32} : F_Ta_isLetter u x I J = some (b2i (decide (97 ≤ x ∧ x ≤ 122)), I, J) := by
  unfold F_Ta_isLetter
  by_cases h1 : x < 97
  · rw [if_pos h1]
    have : ¬ (97 ≤ x ∧ x ≤ 122) := fun q => absurd h1 (Int32.not_lt.mpr q.1)
    simp [this, b2i]
  · rw [if_neg h1]
    by_cases h2 : 122 < x
    · rw [if_pos h2]
      have : ¬ (97 ≤ x ∧ x ≤ 122) := fun q => absurd h2 (Int32.not_lt.mpr q.2)
      simp [this, b2i]
    · rw [if_neg h2]
      have : (97 ≤ x ∧ x ≤ 122) := ⟨Int32.not_lt.mp h1, Int32.not_lt.mp h2⟩
      simp [this, b2i]
end ClassReader
