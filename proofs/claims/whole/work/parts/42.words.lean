/-! ===== WORDS ===== -/
def ltr (c : Int32) : Prop := 97 ≤ c ∧ c ≤ 122
/-- how many letters (and digits behind the first, if they may be there) stand there -/
def r_ll (b : Nat → Int32) (od : Bool) : Nat → Nat → Nat → Nat
  | 0, _, _ => 0
  | m + 1, k, p => if (97 ≤ b p ∧ b p ≤ 122) ∨ (od = true ∧ 0 < k ∧ 48 ≤ b p ∧ b p ≤ 57) then r_ll b od m (k + 1) (p + 1) + 1 else 0
theorem r_ll_le (b : Nat → Int32) (od : Bool) : ∀ m k p, r_ll b od m k p ≤ m
  | 0, _, _ => Nat.le_refl _
  | m + 1, k, p => by
    unfold r_ll
    split
    · have := r_ll_le b od m (k + 1) (p + 1); omega
    · omega
def q_ll (b : Nat → Int32) (n p : Nat) (e : Option Nat) (most : Nat) (od : Bool) : Nat := match e with
  | some _ => 0
  | none => r_ll b od (min most (n - p)) 0 p
theorem q_ll_le {b : Nat → Int32} {n p : Nat} {e : Option Nat} {most : Nat} {od : Bool} : q_ll b n p e most od ≤ n - p ∧ q_ll b n p e most od ≤ most := by
  cases e with
  | some x => exact ⟨Nat.zero_le _, Nat.zero_le _⟩
  | none =>
    have := r_ll_le b od (min most (n - p)) 0 p
    unfold q_ll
    dsimp only
    omega
section WordClass
variable {u : Nat} {I : pm_II} {J : pm_JJ} {b : Nat → Int32} {n p f : Nat} {e : Option Nat}
theorem t_let59 {l : Nat} (hl : l < 2 ^ 31) (ho : Ok n p e) (hb : Tb b n I) : F_Ta_readLetters_59 u (nI l) (tc I p f e) J = some (nI l, tc I p f (if l = 0 then q_bl e p else e), J) := by
  unfold F_Ta_readLetters_59 F_Ta_readLetters_71
  have h17 : (tc I p f e) 17 2 = nI p := rfl
  rw [h17, t_blame ho hb, bd_s]
  simp only [i0_iff hl]
  by_cases h : l = 0
  · rw [if_neg (fun q => q h), if_pos h]
  · rw [if_pos h, if_neg h]
theorem t_let10 {most : Nat} {od : Bool} (hm : most ≤ 1600) (hb : Tb b n I) : ∀ (m N k p : Nat), min (most - k) (n - p) = m → k ≤ most → p ≤ n → m < N → F_Ta_readLetters_10 u N (nI most) (b2i od) (nI k) (tc I p f none) J = some (nI (k + r_ll b od m k p), tc I (p + r_ll b od m k p) f (if k + r_ll b od m k p = 0 then some (p + r_ll b od m k p) else none), J) := by
  intro m
  have hn := hb.2.2
  induction m with
  | zero =>
    intro N k p hm2 hk hp hN
    obtain ⟨N, rfl⟩ : ∃ k, N = k + 1 := ⟨N - 1, by omega⟩
    have ho : Ok n p none := ⟨hp, fun x hx => by cases hx⟩
    have h59 := t_let59 (u := u) (J := J) (f := f) (l := k) (by omega) ho hb
    rw [F_Ta_readLetters_10, h59]
    unfold r_ll
    simp (disch := omega) only [nI_leI, Nat.add_zero]
    have fin : (if k = 0 then q_bl none p else none) = (if k = 0 then some p else none) := rfl
    rw [fin]
    by_cases c : most ≤ k
    · rw [if_pos c]
    · have hpn : p = n := by omega
      have hq : q_nx b n p none = -1 := by
        unfold q_nx; rw [if_neg (by omega)]
      rw [if_neg c, t_next ho hb, bd_s, t_isLetter, bd_s, t_next ho hb, bd_s, t_isDigit, bd_s, hq, if_neg (by decide), if_pos (show b2i (decide ((48 : Int32) ≤ -1 ∧ (-1 : Int32) ≤ 57)) = 0 by decide)]
      rw [h59, fin]
      simp
  | succ m ih =>
    intro N k p hm2 hk hp hN
    obtain ⟨N, rfl⟩ : ∃ k, N = k + 1 := ⟨N - 1, by omega⟩
    have ho : Ok n p none := ⟨hp, fun x hx => by cases hx⟩
    have h59 := t_let59 (u := u) (J := J) (f := f) (l := k) (by omega) ho hb
    have hq : q_nx b n p none = b p := by
      unfold q_nx; rw [if_pos ⟨rfl, by omega⟩]
    have h17 : (tc I p f none) 17 2 = nI p := rfl
    have hI := ih N (k + 1) (p + 1) (by omega) (by omega) (by omega) (by omega)
    have fin : (if k = 0 then q_bl none p else none) = (if k = 0 then some p else none) := rfl
    rw [F_Ta_readLetters_10, t_next ho hb, bd_s, t_isLetter, bd_s, t_next ho hb, bd_s, t_isDigit, bd_s, hq, h17, T3_a, nI_1, nI_io1, nI_add, h59, hI, fin]
    simp only [b2i_0]
    simp (disch := omega) only [nI_leI, nl_0]
    rw [if_neg (by omega)]
    have hr1 : ((97 ≤ b p ∧ b p ≤ 122) ∨ (od = true ∧ 0 < k ∧ 48 ≤ b p ∧ b p ≤ 57)) → r_ll b od (m + 1) k p = r_ll b od m (k + 1) (p + 1) + 1 := fun q => if_pos q
    have hr0 : ¬ ((97 ≤ b p ∧ b p ≤ 122) ∨ (od = true ∧ 0 < k ∧ 48 ≤ b p ∧ b p ≤ 57)) → r_ll b od (m + 1) k p = 0 := fun q => if_neg q
    generalize r_ll b od m (k + 1) (p + 1) = R at hr1 ⊢
    have e1 : k + 1 + R = k + (R + 1) := by omega
    have e2 : p + 1 + R = p + (R + 1) := by omega
    rw [e1, e2]
    by_cases c1 : 97 ≤ b p ∧ b p ≤ 122
    · rw [if_pos (by simp [c1]), hr1 (Or.inl c1)]
    · rw [if_neg (by simpa using c1)]
      cases od with
      | false =>
        rw [if_pos rfl, hr0 (fun q => q.elim c1 (fun z => by cases z.1))]
        rfl
      | true =>
        rw [if_neg (by simp)]
        by_cases c2 : k ≤ 0
        · rw [if_pos c2, hr0 (fun q => q.elim c1 (fun z => by omega))]
          rfl
        · rw [if_neg c2]
          by_cases c3 : 48 ≤ b p ∧ b p ≤ 57
          · rw [if_neg (by simpa using c3), hr1 (Or.inr ⟨rfl, by omega, c3⟩)]
          · rw [if_pos (by simpa using c3), hr0 (fun q => q.elim c1 (fun z => c3 z.2.2))]
            rfl
/-- readLetters -/
theorem t_letters {most : Nat} {od : Bool} (hu : 1602 ≤ u) (hm : most ≤ 1600) (hm0 : 0 < most) (ho : Ok n p e) (hb : Tb b n I) : F_Ta_readLetters u (nI most) (b2i od) (tc I p f e) J = some (nI (q_ll b n p e most od), tc I (p + q_ll b n p e most od) p (if q_ll b n p e most od = 0 then q_bl e p else e), J) := by
  unfold F_Ta_readLetters
  have h17 : (tc I p f e) 17 2 = nI p := rfl
  have hn := hb.2.2
  rw [h17, T3_f]
  cases e with
  | none =>
    have := t_let10 (u := u) (J := J) (f := p) (od := od) hm hb (min most (n - p)) u 0 p (by omega) (by omega) ho.1 (by omega)
    rw [Nat.zero_add] at this
    show F_Ta_readLetters_10 u u (nI most) (b2i od) (nI 0) (tc I p p none) J = _
    rw [this]
    unfold q_ll
    dsimp only
    by_cases h : r_ll b od (min most (n - p)) 0 p = 0
    · rw [h]; rfl
    · rw [if_neg h, if_neg h]
  | some x =>
    obtain ⟨N, hN⟩ : ∃ k, u = k + 1 := ⟨u - 1, by omega⟩
    have e1 : F_Ta_readLetters_10 u u (nI most) (b2i od) 0 (T3 I (nI p) (nI p) (er (some x))) J = F_Ta_readLetters_10 u (N + 1) (nI most) (b2i od) (nI 0) (tc I p p (some x)) J := by rw [← hN]; rfl
    have hq : q_nx b n p (some x) = -1 := by simp [q_nx]
    have h59 := t_let59 (u := u) (J := J) (f := p) (l := 0) (by omega) ho hb
    rw [e1, F_Ta_readLetters_10, t_next ho hb, bd_s, t_isLetter, bd_s, h59, hq]
    rw [if_neg (by rw [nI_leI (by omega) (by omega)]; omega), if_neg (by decide), if_pos (show nI 0 ≤ 0 by decide)]
    split <;> rfl
theorem t_byteAt {j : Nat} (hj : j < 2 ^ 31) (hb : Tb b n I) : F_Ta_byteAt u (nI j) (tc I p f e) J = some ((if j < n then b j else -1), tc I p f e, J) := by
  unfold F_Ta_byteAt
  have h1 : (tc I p f e) 17 1 = I 17 1 := rfl
  have h3 : (tc I p f e) 18 = I 18 := rfl
  have hn := hb.2.2
  rw [h1, h3, hb.2.1, if_neg (nI_pos hj)]
  simp (disch := omega) only [nI_leI, nI_clamp, vq_nI]
  by_cases c : j < n
  · rw [if_neg (by omega), if_pos c, hb.1 j c]
    have : j < 1600 := by omega
    simp [this]
  · rw [if_pos (by omega), if_neg c]
/-- the word that was read is this one -/
def q_wi (b : Nat → Int32) (p l : Nat) (t : List Int32) : Bool := decide (l = t.length ∧ ∀ i, i < t.length → b (p + i) = t.getD i 0)
theorem t_wordIs20 {a l : Nat} (hl : l = (pm_txt a).length) (hl2 : l < 10) (hpl : p + l ≤ n) (hb : Tb b n I) : ∀ (m N i : Nat), i + m = l → m < N → (∀ j, j < i → b (p + j) = (pm_txt a).getD j 0) → F_Ta_wordIs_20 u N a (nI i) (tc I (p + l) p e) J = some (b2i (q_wi b p l (pm_txt a)), tc I (p + l) p e, J) := by
  intro m
  have hn := hb.2.2
  induction m with
  | zero =>
    intro N i hi hN hj
    obtain ⟨N, rfl⟩ : ∃ k, N = k + 1 := ⟨N - 1, by omega⟩
    rw [F_Ta_wordIs_20, ← hl]
    show (if nI l ≤ nI i then _ else _) = _
    rw [if_pos (by rw [nI_leI (by omega) (by omega)]; omega)]
    have : q_wi b p l (pm_txt a) = true := by
      unfold q_wi
      rw [decide_eq_true_iff, ← hl]
      exact ⟨rfl, fun j h => hj j (by omega)⟩
    rw [this]; rfl
  | succ m ih =>
    intro N i hi hN hj
    obtain ⟨N, rfl⟩ : ∃ k, N = k + 1 := ⟨N - 1, by omega⟩
    rw [F_Ta_wordIs_20]
    have h3 : (tc I (p + l) p e) 17 3 = nI p := rfl
    rw [h3, nI_add, t_byteAt (by omega) hb, bd_s, ← hl, if_pos (show p + i < n by omega), nI_io1, nI_add]
    show (if nI l ≤ nI i then _ else _) = _
    rw [if_neg (by rw [nI_leI (by omega) (by omega)]; omega), vq_nI (by omega), nI_clamp (by omega)]
    have : decide (i < l) = true := by simp; omega
    rw [this, cond_true]
    by_cases c : b (p + i) = (pm_txt a).getD i 0
    · rw [if_pos c]
      refine ih N (i + 1) (by omega) (by omega) (fun j h => ?_)
      rcases Nat.lt_or_ge j i with q | q
      · exact hj j q
      · rw [show j = i by omega]; exact c
    · rw [if_neg c]
      have : q_wi b p l (pm_txt a) = false := by
        unfold q_wi
        rw [decide_eq_false_iff_not]
        exact fun q => c (q.2 i (by omega))
      rw [this]; rfl
theorem t_wordIs {a l : Nat} (hu : 20 ≤ u) (ha : (pm_txt a).length < 10) (hpl : p + l ≤ n) (hb : Tb b n I) : F_Ta_wordIs u a (tc I (p + l) p e) J = some (b2i (q_wi b p l (pm_txt a)), tc I (p + l) p e, J) := by
  unfold F_Ta_wordIs
  have hn := hb.2.2
  have h2 : (tc I (p + l) p e) 17 2 = nI (p + l) := rfl
  have h3 : (tc I (p + l) p e) 17 3 = nI p := rfl
  rw [h2, h3, nI_sub2 (by omega), show p + l - p = l by omega]
  show (if nI l = nI (pm_txt a).length then _ else _) = _
  by_cases c : l = (pm_txt a).length
  · rw [if_pos (by rw [c])]
    exact t_wordIs20 c (by omega) hpl hb l u 0 (by omega) (by omega) (fun j h => absurd h (Nat.not_lt_zero _))
  · rw [if_neg (by rw [nI_eq (by omega) (by omega)]; exact c)]
    have : q_wi b p l (pm_txt a) = false := by
      unfold q_wi
      rw [decide_eq_false_iff_not]
      exact fun q => c q.1
    rw [this]; rfl
/-- a keyword: fault behind it -/
def q_kwE (b : Nat → Int32) (n p : Nat) (e : Option Nat) (t : List Int32) : Option Nat := match e with
  | some x => some x
  | none => if q_wi b p (q_ll b n p none 1600 true) t = true then none else some p
theorem t_keyword {a : Nat} (hu : 1602 ≤ u) (ha : (pm_txt a).length < 10) (ha0 : 0 < (pm_txt a).length) (ho : Ok n p e) (hb : Tb b n I) : F_Ta_readKeyword u a (tc I p f e) J = some ((), tc I (p + q_ll b n p e 1600 true) p (q_kwE b n p e (pm_txt a)), J) := by
  unfold F_Ta_readKeyword
  have hl := q_ll_le (b := b) (n := n) (p := p) (e := e) (most := 1600) (od := true)
  have hp := ho.1
  have h1 := t_letters (u := u) (J := J) (f := f) (most := 1600) (od := true) hu (by omega) (by omega) ho hb
  have e1 : F_Ta_readLetters u 1600 1 (tc I p f e) J = F_Ta_readLetters u (nI 1600) (b2i true) (tc I p f e) J := rfl
  rw [e1, h1, bd_s, t_wordIs (by omega) ha (by omega) hb, bd_s]
  have ho2 : Ok n (p + q_ll b n p e 1600 true) (if q_ll b n p e 1600 true = 0 then q_bl e p else e) := by
    refine ⟨by omega, ?_⟩
    split
    · exact q_bl_le ho hp
    · exact ho.2
  rw [t_blameToken ho2 hb, bd_s]
  unfold F_Ta_readKeyword_21 q_kwE
  simp only [b2i_0]
  cases e with
  | none =>
    dsimp only
    by_cases c : q_wi b p (q_ll b n p none 1600 true) (pm_txt a) = true
    · rw [if_pos (by simp [c]), if_pos c]
      have : ¬ q_ll b n p none 1600 true = 0 := by
        unfold q_wi at c
        have := (of_decide_eq_true c).1
        omega
      rw [if_neg this]
    · rw [if_neg (by simpa using c), if_neg c]
      by_cases c0 : q_ll b n p none 1600 true = 0
      · rw [if_pos c0]; rfl
      · rw [if_neg c0]; rfl
  | some x =>
    have : q_wi b p (q_ll b n p (some x) 1600 true) (pm_txt a) = false := by
      unfold q_wi q_ll
      rw [decide_eq_false_iff_not]
      intro q
      have := q.1
      dsimp only at this
      omega
    rw [if_neg (by simp [this])]
    split <;> rfl
theorem Ok_kw {t : List Int32} (ho : Ok n p e) : Ok n (p + q_ll b n p e 1600 true) (q_kwE b n p e t) := by
  have hl := q_ll_le (b := b) (n := n) (p := p) (e := e) (most := 1600) (od := true)
  have hp := ho.1
  refine ⟨by omega, ?_⟩
  cases e with
  | some x => exact ho.2
  | none =>
    intro x hx
    unfold q_kwE at hx
    dsimp only at hx
    split at hx
    · cases hx
    · cases hx; exact hp
/-- readEither: whether it is the second, and the fault behind it -/
def q_eiE (b : Nat → Int32) (n p : Nat) (e : Option Nat) (t1 t2 : List Int32) : Option Nat := match e with
  | some x => some x
  | none => if q_wi b p (q_ll b n p none 1600 true) t2 = true ∨ q_wi b p (q_ll b n p none 1600 true) t1 = true then none else some p
theorem t_either {a1 a2 : Nat} (hu : 1602 ≤ u) (ha : (pm_txt a1).length < 10) (ha0 : 0 < (pm_txt a1).length) (hc : (pm_txt a2).length < 10) (hc0 : 0 < (pm_txt a2).length) (ho : Ok n p e) (hb : Tb b n I) : F_Ta_readEither u a1 a2 (tc I p f e) J = some (b2i (q_wi b p (q_ll b n p e 1600 true) (pm_txt a2)), tc I (p + q_ll b n p e 1600 true) p (q_eiE b n p e (pm_txt a1) (pm_txt a2)), J) := by
  unfold F_Ta_readEither
  have hl := q_ll_le (b := b) (n := n) (p := p) (e := e) (most := 1600) (od := true)
  have hp := ho.1
  have h1 := t_letters (u := u) (J := J) (f := f) (most := 1600) (od := true) hu (by omega) (by omega) ho hb
  have e1 : F_Ta_readLetters u 1600 1 (tc I p f e) J = F_Ta_readLetters u (nI 1600) (b2i true) (tc I p f e) J := rfl
  rw [e1, h1, bd_s, t_wordIs (by omega) hc (by omega) hb, bd_s, t_wordIs (by omega) ha (by omega) hb, bd_s]
  have ho2 : Ok n (p + q_ll b n p e 1600 true) (if q_ll b n p e 1600 true = 0 then q_bl e p else e) := by
    refine ⟨by omega, ?_⟩
    split
    · exact q_bl_le ho hp
    · exact ho.2
  rw [t_blameToken ho2 hb, bd_s]
  have h31 : ∀ I2 (x : Bool), F_Ta_readEither_31 u (b2i x) I2 J = some (b2i x, I2, J) := by
    intro I2 x
    unfold F_Ta_readEither_31
    cases x <;> rfl
  rw [h31, h31]
  unfold q_eiE
  simp only [b2i_0]
  have fin : ∀ t : List Int32, 0 < t.length → q_wi b p (q_ll b n p none 1600 true) t = true → ¬ q_ll b n p none 1600 true = 0 := by
    intro t ht c
    unfold q_wi at c
    have := (of_decide_eq_true c).1
    omega
  cases e with
  | none =>
    dsimp only
    by_cases c : q_wi b p (q_ll b n p none 1600 true) (pm_txt a2) = true
    · rw [if_pos (by simp [c]), if_pos (Or.inl c), if_neg (fin _ hc0 c)]
    · rw [if_neg (by simpa using c)]
      by_cases c5 : q_wi b p (q_ll b n p none 1600 true) (pm_txt a1) = true
      · rw [if_pos (by simp [c5]), if_pos (Or.inr c5), if_neg (fin _ ha0 c5)]
      · have hne : ¬ (q_wi b p (q_ll b n p none 1600 true) (pm_txt a2) = true ∨ q_wi b p (q_ll b n p none 1600 true) (pm_txt a1) = true) := fun q => q.elim c c5
        rw [if_neg (by simpa using c5), if_neg hne]
        by_cases c0 : q_ll b n p none 1600 true = 0
        · rw [if_pos c0]; rfl
        · rw [if_neg c0]; rfl
  | some x =>
    have no : ∀ t : List Int32, 0 < t.length → q_wi b p (q_ll b n p (some x) 1600 true) t = false := by
      intro t ht
      unfold q_wi q_ll
      rw [decide_eq_false_iff_not]
      intro q
      have := q.1
      dsimp only at this
      omega
    rw [no _ hc0, no _ ha0, if_neg (by simp), if_neg (by simp)]
    split <;> rfl
theorem Ok_ei {t1 t2 : List Int32} (ho : Ok n p e) : Ok n (p + q_ll b n p e 1600 true) (q_eiE b n p e t1 t2) := by
  have hl := q_ll_le (b := b) (n := n) (p := p) (e := e) (most := 1600) (od := true)
  have hp := ho.1
  refine ⟨by omega, ?_⟩
  cases e with
  | some x => exact ho.2
  | none =>
    intro x hx
    unfold q_eiE at hx
    dsimp only at hx
    split at hx
    · cases hx
    · cases hx; exact hp
/-- open, close -/
theorem t_open : F_Ta_open u I J = some ((), tc I 0 0 none, J) := by
  unfold F_Ta_open
  have h : pm_up (pm_up (pm_up I 17 2 0) 17 3 0) 17 4 (-1) = tc I 0 0 none := by
    conv => lhs; rw [← T3_id I]
    rw [T3_a, T3_f, T3_w]
    rfl
  rw [h]
theorem t_close {x : Int32} (ho : Ok n p e) (hb : Tb b n I) : F_Ta_close u x (tc I p f e) J = some ((match e with | none => x | some y => -1000 - nI y), tc (pm_up I 17 1 0) p f e, J) := by
  unfold F_Ta_close F_Ta_isRight
  rw [T3_1]
  have h : (tc (pm_up I 17 1 0) p f e) 17 4 = er e := rfl
  show bd (if ¬ (tc (pm_up I 17 1 0) p f e) 17 4 = -1 then _ else _) _ = _
  rw [h]
  cases e with
  | none => rfl
  | some y =>
    rw [if_pos (by rw [er_m1 (ho.x hb.2.2)]; simp), bd_s, if_pos rfl]
    rfl
end WordClass
