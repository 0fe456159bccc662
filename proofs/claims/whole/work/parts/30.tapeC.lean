/-! ===== THE TAPE of the class: the reading of texts ===== -/
def T3 (I : pm_II) (a f w : Int32) : pm_II := fun c => cond (Nat.beq c 17) (fun k => if k = 2 then a else if k = 3 then f else if k = 4 then w else I 17 k) (I c)
theorem T3_w {I : pm_II} {a f w v : Int32} : pm_up (T3 I a f w) 17 4 v = T3 I a f v := by
  funext c k
  by_cases hc : c = 17
  · subst hc
    simp only [pm_up, T3, nb_t, cond_true]
    by_cases h4 : k = 4
    · subst h4; rfl
    · simp [h4]
  · simp only [pm_up, T3, nb_f hc, cond_false]
theorem T3_a {I : pm_II} {a f w v : Int32} : pm_up (T3 I a f w) 17 2 v = T3 I v f w := by
  funext c k
  by_cases hc : c = 17
  · subst hc
    simp only [pm_up, T3, nb_t, cond_true]
    by_cases h4 : k = 2
    · subst h4; rfl
    · simp [h4]
  · simp only [pm_up, T3, nb_f hc, cond_false]
theorem T3_f {I : pm_II} {a f w v : Int32} : pm_up (T3 I a f w) 17 3 v = T3 I a v w := by
  funext c k
  by_cases hc : c = 17
  · subst hc
    simp only [pm_up, T3, nb_t, cond_true]
    by_cases h4 : k = 3
    · subst h4; rfl
    · simp [h4]
  · simp only [pm_up, T3, nb_f hc, cond_false]
theorem T3_o {I : pm_II} {a f w v : Int32} {c j : Nat} (hc : c ≠ 17) : pm_up (T3 I a f w) c j v = T3 (pm_up I c j v) a f w := by
  funext d k
  by_cases hd : d = 17
  · subst hd
    have : Nat.beq 17 c = false := nb_f (Ne.symm hc)
    simp only [pm_up, T3, nb_t, cond_true, this, cond_false]
  · by_cases hdc : d = c
    · subst hdc
      simp only [pm_up, T3, nb_t, cond_true, nb_f hd, cond_false]
    · simp only [pm_up, T3, nb_f hd, nb_f hdc, cond_false]
theorem T3_id (I : pm_II) : T3 I (I 17 2) (I 17 3) (I 17 4) = I := by
  funext c k
  by_cases hc : c = 17
  · subst hc
    simp only [T3, nb_t, cond_true]
    by_cases h2 : k = 2
    · subst h2; rfl
    · by_cases h3 : k = 3
      · subst h3; rfl
      · by_cases h4 : k = 4
        · subst h4; rfl
        · simp [h2, h3, h4]
  · simp only [T3, nb_f hc, cond_false]
/-- where a reader stands: at a place, or with the first fault's place -/
abbrev TS : Type := Except Nat Nat
def Tst (n : Nat) (s : TS) (a w : Int32) : Prop := match s with
  | .ok p => a = nI p ∧ p ≤ n ∧ w = -1
  | .error e => w = nI e ∧ e ≤ n
def Tb (b : Nat → Int32) (n : Nat) (I : pm_II) : Prop := I 18 = b ∧ I 17 1 = nI n ∧ n ≤ 1600
theorem nI_m1 {e : Nat} (h : e < 2 ^ 31) : ¬ nI e = -1 := by
  intro z
  have := nI_toInt h
  rw [z] at this
  have h2 : ((-1 : Int32)).toInt = -1 := by decide
  omega
theorem Tb.put {b : Nat → Int32} {n : Nat} {I : pm_II} (h : Tb b n I) {c j : Nat} {v : Int32} (h17 : c ≠ 17) (h18 : c ≠ 18) : Tb b n (pm_up I c j v) := by
  refine ⟨?_, ?_, h.2.2⟩
  · rw [pm_up_ne (Ne.symm h18)]; exact h.1
  · rw [pm_up_ne (Ne.symm h17)]; exact h.2.1
/-- pure reading -/
def r_nx (b : Nat → Int32) (n : Nat) (s : TS) : Int32 := match s with
  | .ok p => if p < n then b p else -1
  | .error _ => -1
def r_hm (n : Nat) (s : TS) : Bool := match s with
  | .ok p => decide (p < n)
  | .error _ => false
def r_bl (s : TS) (e : Nat) : TS := match s with
  | .ok _ => .error e
  | .error d => .error d
def r_tk (b : Nat → Int32) (n : Nat) (s : TS) (c : Int32) : Bool := match s with
  | .ok p => decide (p < n ∧ b p = c)
  | .error _ => false
def r_go (s : TS) : TS := match s with
  | .ok p => .ok (p + 1)
  | .error e => .error e
def r_ex (b : Nat → Int32) (n : Nat) (s : TS) (c : Int32) : TS := match s with
  | .ok p => if p < n ∧ b p = c then .ok (p + 1) else .error p
  | .error e => .error e
def r_fi (n : Nat) (s : TS) : TS := match s with
  | .ok p => if p < n then .error p else .ok p
  | .error e => .error e
def b2i (b : Bool) : Int32 := cond b 1 0
section TapeC
variable {k : Nat} {pa pb : Nat} {ga : Nat → Nat} {I : pm_II} {J : pm_JJ} {Q : Option Value → pm_H → Prop} {b : Nat → Int32} {n : Nat} {s : TS} {a f w : Int32}
theorem cT_isRight (hs : Tst n s a w) (hb : Tb b n I) (hq : Q (some (.int (match s with | .ok _ => 1 | .error _ => 0))) (hp (T3 I a f w) J (pm_RT pa pb ga))) : Px k 176 m_Ta_isRight 0 [.ref 17] [] (hp (T3 I a f w) J (pm_RT pa pb ga)) Q := by
  refine bk_Ta_isRight_0 ?_
  show (¬ w = -1 → _) ∧ (¬ ¬ w = -1 → _)
  cases s with
  | ok p =>
    obtain ⟨h1, h2, h3⟩ := hs
    exact ⟨fun z => absurd h3 z, fun _ => hq⟩
  | error e =>
    obtain ⟨h1, h2⟩ := hs
    refine ⟨fun _ => hq, fun z => absurd ?_ z⟩
    rw [h1]; exact nI_m1 (by have := hb.2.2; omega)
theorem cT_hasMore (hs : Tst n s a w) (hb : Tb b n I) (hq : Q (some (.int (b2i (r_hm n s)))) (hp (T3 I a f w) J (pm_RT pa pb ga))) : Px k 176 m_Ta_hasMore 0 [.ref 17] [] (hp (T3 I a f w) J (pm_RT pa pb ga)) Q := by
  refine bk_Ta_hasMore_0 ?_
  show (¬ w = -1 → _) ∧ (¬ ¬ w = -1 → (I 17 1 ≤ a → _) ∧ (¬ I 17 1 ≤ a → _))
  have hn := hb.2.2
  cases s with
  | ok p =>
    obtain ⟨h1, h2, h3⟩ := hs
    refine ⟨fun z => absurd h3 z, fun _ => ?_⟩
    rw [hb.2.1, h1, nI_leI (by omega) (by omega)]
    by_cases hp2 : p < n
    · refine ⟨fun z => absurd z (by omega), fun _ => ?_⟩
      simp only [r_hm, hp2, decide_true, b2i, cond_true] at hq
      rw [← h1]; exact hq
    · refine ⟨fun _ => ?_, fun z => absurd (by omega) z⟩
      simp only [r_hm, hp2, decide_false, b2i, cond_false] at hq
      rw [← h1]; exact hq
  | error e =>
    obtain ⟨h1, h2⟩ := hs
    refine ⟨fun _ => hq, fun z => absurd ?_ z⟩
    rw [h1]; exact nI_m1 (by omega)
theorem cT_next (hs : Tst n s a w) (hb : Tb b n I) (hq : Q (some (.int (r_nx b n s))) (hp (T3 I a f w) J (pm_RT pa pb ga))) : Px k 176 m_Ta_next 0 [.ref 17] [] (hp (T3 I a f w) J (pm_RT pa pb ga)) Q := by
  refine bk_Ta_next_0 ?_
  show (¬ w = -1 → _) ∧ (¬ ¬ w = -1 → (I 17 1 ≤ a → _) ∧ (¬ I 17 1 ≤ a → vp_in a 1600 ∧ Q (some (.int (I 18 a.toNatClampNeg))) _))
  have hn := hb.2.2
  cases s with
  | ok p =>
    obtain ⟨h1, h2, h3⟩ := hs
    refine ⟨fun z => absurd h3 z, fun _ => ?_⟩
    rw [hb.2.1, hb.1, h1, nI_leI (by omega) (by omega), nI_clamp (by omega)]
    by_cases hp2 : p < n
    · refine ⟨fun z => absurd z (by omega), fun _ => ⟨vp_in_nI (by omega) (by omega), ?_⟩⟩
      simp only [r_nx, hp2, if_true] at hq
      rw [← h1]; exact hq
    · refine ⟨fun _ => ?_, fun z => absurd (by omega) z⟩
      simp only [r_nx, hp2, if_false] at hq
      rw [← h1]; exact hq
  | error e =>
    obtain ⟨h1, h2⟩ := hs
    refine ⟨fun _ => hq, fun z => absurd ?_ z⟩
    rw [h1]; exact nI_m1 (by omega)
theorem cT_blame {e : Nat} {x : Int32} (hx : x = nI e) (he : e ≤ n) (hs : Tst n s a w) (hb : Tb b n I) (hq : ∀ w', Tst n (r_bl s e) a w' → Q none (hp (T3 I a f w') J (pm_RT pa pb ga))) : Px k 176 m_Ta_blame 0 [.ref 17, .int x] [] (hp (T3 I a f w) J (pm_RT pa pb ga)) Q := by
  refine bk_Ta_blame_0 ?_
  show (¬ w = -1 → _) ∧ (¬ ¬ w = -1 → _)
  have hn := hb.2.2
  cases s with
  | ok p =>
    obtain ⟨h1, h2, h3⟩ := hs
    refine ⟨fun z => absurd h3 z, fun _ => ?_⟩
    rw [T3_w]
    exact hq x ⟨hx, he⟩
  | error d =>
    refine ⟨fun _ => hq w hs, fun z => absurd ?_ z⟩
    rw [hs.1]; exact nI_m1 (by have := hs.2; omega)
theorem cT_takes {c : Int32} (hs : Tst n s a w) (hb : Tb b n I) (h0 : r_tk b n s c = false → Q (some (.int 0)) (hp (T3 I a f w) J (pm_RT pa pb ga))) (h1 : r_tk b n s c = true → ∀ a', Tst n (r_go s) a' w → Q (some (.int 1)) (hp (T3 I a' f w) J (pm_RT pa pb ga))) : Px (k + 1) 176 m_Ta_takes 0 [.ref 17, .int c] [] (hp (T3 I a f w) J (pm_RT pa pb ga)) Q := by
  refine bk_Ta_takes_0 (cT_hasMore hs hb ⟨rfl, bk_Ta_takes_4 ?_⟩)
  show (b2i (r_hm n s) = 0 → _) ∧ (¬ b2i (r_hm n s) = 0 → vp_in a 1600 ∧ ((I 18 a.toNatClampNeg = c → Q (some (.int 1)) (hp (pm_up (T3 I a f w) 17 2 (a + 1)) J (pm_RT pa pb ga))) ∧ _))
  have hn := hb.2.2
  cases s with
  | ok p =>
    have hs0 := hs
    obtain ⟨g1, g2, g3⟩ := hs
    by_cases hp2 : p < n
    · simp only [r_hm, hp2, decide_true, b2i, cond_true]
      refine ⟨fun z => absurd z (by decide), fun _ => ⟨by rw [g1]; exact vp_in_nI (by omega) (by omega), ?_⟩⟩
      rw [hb.1, g1, nI_clamp (by omega)]
      refine ⟨fun z => ?_, fun z => ?_⟩
      · rw [T3_a]
        refine h1 (by simp [r_tk, hp2, z]) _ ⟨?_, by omega, g3⟩
        rw [nI_1]
      · have z : ¬ I 18 (nI p).toNatClampNeg = c := z
        rw [hb.1, nI_clamp (by omega)] at z
        rw [← g1]
        exact h0 (by simp only [r_tk, decide_eq_false_iff_not]; exact fun q => z q.2)
    · simp only [r_hm, hp2, decide_false, b2i, cond_false]
      exact ⟨fun _ => h0 (by simp [r_tk, hp2]), fun z => absurd trivial z⟩
  | error e => exact ⟨fun _ => h0 rfl, fun z => absurd rfl z⟩
theorem cT_expect {c : Int32} (hs : Tst n s a w) (hb : Tb b n I) (hq : ∀ a' w', Tst n (r_ex b n s c) a' w' → Q none (hp (T3 I a' f w') J (pm_RT pa pb ga))) : Px (k + 2) 176 m_Ta_expect 0 [.ref 17, .int c] [] (hp (T3 I a f w) J (pm_RT pa pb ga)) Q := by
  refine bk_Ta_expect_0 (cT_takes hs hb (fun hz => ⟨rfl, bk_Ta_expect_5 ⟨fun z => absurd rfl z, fun _ => ?_⟩⟩) (fun hz a' hs' => ⟨rfl, bk_Ta_expect_5 ⟨fun _ => bk_Ta_expect_16 (hq _ _ ?_), fun z => absurd (by decide) z⟩⟩))
  · show Px (k + 1) 176 m_Ta_blame 0 [.ref 17, .int a] [] _ _
    cases s with
    | ok p =>
      refine cT_blame hs.1 hs.2.1 hs hb (fun w' hw' => ⟨rfl, bk_Ta_expect_16 (hq _ _ ?_)⟩)
      have hz : ¬ (p < n ∧ b p = c) := by simpa [r_tk] using hz
      simpa [r_ex, hz, r_bl] using hw'
    | error e =>
      refine bk_Ta_blame_0 ⟨fun _ => ⟨rfl, bk_Ta_expect_16 (hq _ _ hs)⟩, fun z => absurd ?_ z⟩
      show ¬ w = -1
      rw [hs.1]; exact nI_m1 (by have := hs.2; have := hb.2.2; omega)
  · cases s with
    | ok p =>
      have hz : p < n ∧ b p = c := by simpa [r_tk] using hz
      simpa [r_ex, hz, r_go] using hs'
    | error e => cases hz
theorem cT_finish (hs : Tst n s a w) (hb : Tb b n I) (hq : ∀ w', Tst n (r_fi n s) a w' → Q none (hp (T3 I a f w') J (pm_RT pa pb ga))) : Px (k + 1) 176 m_Ta_finish 0 [.ref 17] [] (hp (T3 I a f w) J (pm_RT pa pb ga)) Q := by
  have hn := hb.2.2
  cases s with
  | ok p =>
    obtain ⟨rfl, g2, g3⟩ := hs
    refine bk_Ta_finish_0 ?_
    show (I 17 1 ≤ nI p → _) ∧ (¬ I 17 1 ≤ nI p → Px k 176 m_Ta_blame 0 [.ref 17, .int (nI p)] [] _ _)
    rw [hb.2.1, nI_leI (by omega) (by omega)]
    refine ⟨fun z => bk_Ta_finish_19 (hq _ ?_), fun z => ?_⟩
    · have : ¬ p < n := by omega
      simp only [r_fi, this, if_false]
      exact ⟨rfl, g2, g3⟩
    · refine cT_blame rfl (by omega) (s := .ok p) ⟨rfl, g2, g3⟩ hb (fun w' hw' => ⟨rfl, bk_Ta_finish_19 (hq _ ?_)⟩)
      have : p < n := by omega
      simpa [r_fi, this, r_bl] using hw'
  | error e =>
    refine bk_Ta_finish_0 ⟨fun _ => bk_Ta_finish_19 (hq _ hs), fun _ => bk_Ta_blame_0 ⟨fun _ => ⟨rfl, bk_Ta_finish_19 (hq _ hs)⟩, fun z => absurd ?_ z⟩⟩
    show ¬ w = -1
    rw [hs.1]; exact nI_m1 (by have := hs.2; omega)
theorem cT_isDigit {x : Int32} (hq : Q (some (.int (b2i (decide (48 ≤ x ∧ x ≤ 57))))) (hp I J (pm_RT pa pb ga))) : Px k 176 m_Ta_isDigit 0 [.int x] [] (hp I J (pm_RT pa pb ga)) Q := by
  refine bk_Ta_isDigit_0 ⟨fun z => ?_, fun z => ⟨fun y => ?_, fun y => ?_⟩⟩
  · have : ¬ (48 ≤ x ∧ x ≤ 57) := fun q => absurd z (Int32.not_lt.mpr q.1)
    simpa [this, b2i] using hq
  · have : ¬ (48 ≤ x ∧ x ≤ 57) := fun q => absurd y (Int32.not_lt.mpr q.2)
    simpa [this, b2i] using hq
  · have : 48 ≤ x ∧ x ≤ 57 := ⟨Int32.not_lt.mp z, Int32.not_lt.mp y⟩
    simpa [this, b2i] using hq
theorem cT_isLetter {x : Int32} (hq : Q (some (.int (b2i (decide (97 ≤ x ∧ x ≤ 122))))) (hp I J (pm_RT pa pb ga))) : Px k 176 m_Ta_isLetter 0 [.int x] [] (hp I J (pm_RT pa pb ga)) Q := by
  refine bk_Ta_isLetter_0 ⟨fun z => ?_, fun z => ⟨fun y => ?_, fun y => ?_⟩⟩
  · have : ¬ (97 ≤ x ∧ x ≤ 122) := fun q => absurd z (Int32.not_lt.mpr q.1)
    simpa [this, b2i] using hq
  · have : ¬ (97 ≤ x ∧ x ≤ 122) := fun q => absurd y (Int32.not_lt.mpr q.2)
    simpa [this, b2i] using hq
  · have : 97 ≤ x ∧ x ≤ 122 := ⟨Int32.not_lt.mp z, Int32.not_lt.mp y⟩
    simpa [this, b2i] using hq
end TapeC
