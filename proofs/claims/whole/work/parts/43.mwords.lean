/-! ===== words of the model ===== -/
def r_wl (b : Nat → Int32) : Nat → Nat → Nat
  | 0, _ => 0
  | m + 1, p => if (97 ≤ b p ∧ b p ≤ 122) ∨ (48 ≤ b p ∧ b p ≤ 57) then r_wl b m (p + 1) + 1 else 0
theorem r_wl_le (b : Nat → Int32) : ∀ m p, r_wl b m p ≤ m
  | 0, _ => Nat.le_refl _
  | m + 1, p => by
    unfold r_wl
    split
    · have := r_wl_le b m (p + 1); omega
    · omega
theorem r_ll_wl (b : Nat → Int32) : ∀ m k p, 0 < k → r_ll b true m k p = r_wl b m p
  | 0, _, _, _ => rfl
  | m + 1, k, p, h => by
    have e : ((97 ≤ b p ∧ b p ≤ 122) ∨ (true = true ∧ 0 < k ∧ 48 ≤ b p ∧ b p ≤ 57)) ↔ ((97 ≤ b p ∧ b p ≤ 122) ∨ (48 ≤ b p ∧ b p ≤ 57)) := by simp [h]
    unfold r_ll r_wl
    rw [r_ll_wl b m (k + 1) (p + 1) (by omega)]
    by_cases c : ((97 ≤ b p ∧ b p ≤ 122) ∨ (48 ≤ b p ∧ b p ≤ 57))
    · rw [if_pos (e.mpr c), if_pos c]
    · rw [if_neg (fun z => c (e.mp z)), if_neg c]
/-- of a text of letters it is all one how the word is measured -/
theorem q_wi_wl {b : Nat → Int32} {n p : Nat} {t : List Int32} (hn : n ≤ 1600) (h0 : 0 < t.length) (hl : 97 ≤ t.getD 0 0 ∧ t.getD 0 0 ≤ 122) : q_wi b p (q_ll b n p none 1600 true) t = q_wi b p (r_wl b (n - p) p) t := by
  unfold q_wi q_ll
  dsimp only
  have hm : min 1600 (n - p) = n - p := by omega
  rw [hm]
  have key : (∀ i, i < t.length → b (p + i) = t.getD i 0) → r_ll b true (n - p) 0 p = r_wl b (n - p) p := by
    intro hq
    have h1 := hq 0 h0
    rw [Nat.add_zero] at h1
    cases hnp : n - p with
    | zero => rfl
    | succ m =>
      unfold r_ll r_wl
      rw [if_pos (Or.inl (by rw [h1]; exact hl)), if_pos (Or.inl (by rw [h1]; exact hl)), r_ll_wl b m (0 + 1) (p + 1) (by omega)]
  by_cases hq : ∀ i, i < t.length → b (p + i) = t.getD i 0
  · rw [key hq]
  · have e1 : ∀ l, ¬ (l = t.length ∧ ∀ i, i < t.length → b (p + i) = t.getD i 0) := fun l z => hq z.2
    rw [decide_eq_decide]
    exact ⟨fun z => absurd z.2 hq, fun z => absurd z.2 hq⟩
section WordModel
variable {u : Nat} {I : pm_II} {J : pm_JJ} {b : Nat → Int32} {n p : Nat} {e : Option Nat}
theorem m_wordEnd5 {p0 : Nat} (hb : Mb b n I) : ∀ (m N p : Nat), p + m = n → m < N → F_Mo_wordEnd_5 u N (nI p) (mc I p0 e) J = some (nI (p + r_wl b m p), mc I p0 e, J) := by
  intro m
  have hn := hb.2.2
  have h3 : (mc I p0 e) 120 3 = I 120 3 := rfl
  have h122 : (mc I p0 e) 122 = I 122 := rfl
  induction m with
  | zero =>
    intro N p hp hN
    obtain ⟨N, rfl⟩ : ∃ k, N = k + 1 := ⟨N - 1, by omega⟩
    rw [F_Mo_wordEnd_5, h3, hb.2.1]
    rw [if_pos (by rw [nI_leI (by omega) (by omega)]; omega)]
    rfl
  | succ m ih =>
    intro N p hp hN
    obtain ⟨N, rfl⟩ : ∃ k, N = k + 1 := ⟨N - 1, by omega⟩
    rw [F_Mo_wordEnd_5, h3, h122, hb.2.1, m_isSmall, bd_s, nI_clamp (by omega), hb.1 p (by omega), h122, hb.1 p (by omega), m_isDigit, bd_s]
    rw [if_neg (by rw [nI_leI (by omega) (by omega)]; omega), vq_nI (by omega), nI_io1, nI_add, ih N (p + 1) (by omega) (by omega)]
    have h16 : decide (p < 1600) = true := by simp; omega
    simp only [h16, cond_true, b2i_0]
    have hr1 : ((97 ≤ b p ∧ b p ≤ 122) ∨ (48 ≤ b p ∧ b p ≤ 57)) → r_wl b (m + 1) p = r_wl b m (p + 1) + 1 := fun q => if_pos q
    have hr0 : ¬ ((97 ≤ b p ∧ b p ≤ 122) ∨ (48 ≤ b p ∧ b p ≤ 57)) → r_wl b (m + 1) p = 0 := fun q => if_neg q
    rw [show p + 1 + r_wl b m (p + 1) = p + (r_wl b m (p + 1) + 1) by omega]
    by_cases c1 : 97 ≤ b p ∧ b p ≤ 122
    · rw [if_pos (by simp [c1]), hr1 (Or.inl c1)]
    · rw [if_neg (by simpa using c1)]
      by_cases c3 : 48 ≤ b p ∧ b p ≤ 57
      · rw [if_neg (by simpa using c3), hr1 (Or.inr c3)]
      · rw [if_pos (by simpa using c3), hr0 (fun q => q.elim c1 c3)]
        rfl
theorem m_wordEnd (hu : 1602 ≤ u) (hp : p ≤ n) (hb : Mb b n I) : F_Mo_wordEnd u (mc I p e) J = some (nI (p + r_wl b (n - p) p), mc I p e, J) := by
  unfold F_Mo_wordEnd
  have hn := hb.2.2
  have h4 : (mc I p e) 120 4 = nI p := rfl
  rw [h4]
  exact m_wordEnd5 hb (n - p) u p (by omega) (by omega)
theorem m_isWord73 {x : Nat} {w : Bool} : F_Mo_isWord_73 u (nI x) (b2i w) (mc I p e) J = some (b2i w, mc I (if w = true then x else p) e, J) := by
  unfold F_Mo_isWord_73
  rw [M2_a]
  cases w <;> rfl
theorem m_isWord27f {x a i N : Nat} (hi : i ≤ (pm_txt a).length) (ha : (pm_txt a).length < 10) : F_Mo_isWord_27 u (N + 1) a (nI x) (b2i false) (nI i) (mc I p e) J = some (0, mc I p e, J) := by
  have h73 := m_isWord73 (u := u) (I := I) (J := J) (p := p) (e := e) (x := x) (w := false)
  rw [F_Mo_isWord_27, h73]
  rw [if_pos (show b2i false = 0 from rfl)]
  split <;> rfl
theorem m_isWord27 {x a : Nat} (hp : p + (pm_txt a).length ≤ n) (ha : (pm_txt a).length < 10) (hb : Mb b n I) : ∀ (m N i : Nat), i + m = (pm_txt a).length → m + 1 < N → (∀ j, j < i → b (p + j) = (pm_txt a).getD j 0) → F_Mo_isWord_27 u N a (nI x) (b2i true) (nI i) (mc I p e) J = some (b2i (q_wi b p (pm_txt a).length (pm_txt a)), mc I (if q_wi b p (pm_txt a).length (pm_txt a) = true then x else p) e, J) := by
  intro m
  have hn := hb.2.2
  have h4 : (mc I p e) 120 4 = nI p := rfl
  have h122 : (mc I p e) 122 = I 122 := rfl
  have h73 := m_isWord73 (u := u) (I := I) (J := J) (p := p) (e := e) (x := x) (w := true)
  induction m with
  | zero =>
    intro N i hi hN hj
    obtain ⟨N, rfl⟩ : ∃ k, N = k + 1 := ⟨N - 1, by omega⟩
    rw [F_Mo_isWord_27, h73]
    show (if nI (pm_txt a).length ≤ nI i then _ else _) = _
    rw [if_pos (by rw [nI_leI (by omega) (by omega)]; omega)]
    have : q_wi b p (pm_txt a).length (pm_txt a) = true := by
      unfold q_wi
      rw [decide_eq_true_iff]
      exact ⟨rfl, fun j h => hj j (by omega)⟩
    rw [this]
  | succ m ih =>
    intro N i hi hN hj
    obtain ⟨N, rfl⟩ : ∃ k, N = k + 2 := ⟨N - 2, by omega⟩
    rw [F_Mo_isWord_27, h4, h122, nI_add, nI_clamp (by omega), nI_clamp (by omega), hb.1 (p + i) (by omega), nI_io1, nI_add]
    show (if nI (pm_txt a).length ≤ nI i then _ else _) = _
    rw [if_neg (by rw [nI_leI (by omega) (by omega)]; omega), if_neg (by decide), vq_nI (by omega), vq_nI (by omega)]
    have d1 : decide (p + i < 1600) = true := by simp; omega
    have d2 : decide (i < (pm_txt a).length) = true := by simp; omega
    rw [d1, d2, cond_true, cond_true]
    by_cases c : b (p + i) = (pm_txt a).getD i 0
    · rw [if_neg (fun q => q c)]
      refine ih (N + 1) (i + 1) (by omega) (by omega) (fun j h => ?_)
      rcases Nat.lt_or_ge j i with q | q
      · exact hj j q
      · rw [show j = i by omega]; exact c
    · rw [if_pos c]
      have : q_wi b p (pm_txt a).length (pm_txt a) = false := by
        unfold q_wi
        rw [decide_eq_false_iff_not]
        exact fun q => c (q.2 i (by omega))
      rw [this]
      exact m_isWord27f (by omega) ha
/-- isWord -/
def q_wd (b : Nat → Int32) (n p : Nat) (t : List Int32) : Bool := q_wi b p (r_wl b (n - p) p) t
theorem m_isWord {a : Nat} (hu : 1602 ≤ u) (hp : p ≤ n) (ha : (pm_txt a).length < 10) (hb : Mb b n I) : F_Mo_isWord u a (mc I p e) J = some (b2i (q_wd b n p (pm_txt a)), mc I (if q_wd b n p (pm_txt a) = true then p + (pm_txt a).length else p) e, J) := by
  unfold F_Mo_isWord
  have hn := hb.2.2
  have h4 : (mc I p e) 120 4 = nI p := rfl
  have hl := r_wl_le b (n - p) p
  rw [m_wordEnd hu hp hb, bd_s, h4, nI_sub2 (by omega), show p + r_wl b (n - p) p - p = r_wl b (n - p) p by omega]
  show (if ¬ nI (r_wl b (n - p) p) = nI (pm_txt a).length then _ else _) = _
  unfold q_wd
  by_cases c : r_wl b (n - p) p = (pm_txt a).length
  · rw [if_neg (fun q => q (by rw [c])), c]
    exact m_isWord27 (by omega) ha hb (pm_txt a).length u 0 (by omega) (by omega) (fun j h => absurd h (Nat.not_lt_zero _))
  · rw [if_pos (by rw [nI_eq (by omega) (by omega)]; exact c)]
    have : q_wi b p (r_wl b (n - p) p) (pm_txt a) = false := by
      unfold q_wi
      rw [decide_eq_false_iff_not]
      exact fun q => c q.1
    rw [this]
    obtain ⟨N, hN⟩ : ∃ k, u = k + 1 := ⟨u - 1, by omega⟩
    have := m_isWord27f (u := u) (I := I) (J := J) (p := p) (e := e) (x := p + r_wl b (n - p) p) (a := a) (i := 0) (N := N) (Nat.zero_le _) ha
    rw [← hN] at this
    exact this
theorem q_wd_le {t : List Int32} (hp : p ≤ n) (h : q_wd b n p t = true) : p + t.length ≤ n := by
  unfold q_wd q_wi at h
  have h1 := (of_decide_eq_true h).1
  have := r_wl_le b (n - p) p
  omega
/-- take -/
def TK (I : pm_II) (n : Nat) : pm_II := fun c => cond (Nat.beq c 122) (fun j => if j < n then I 121 j else I 122 j) (cond (Nat.beq c 120) (fun k => if k = 2 then 0 else if k = 3 then nI n else I 120 k) (I c))
def TK0 (I : pm_II) (n i : Nat) : pm_II := fun c => cond (Nat.beq c 122) (fun j => if j < i then I 121 j else I 122 j) (cond (Nat.beq c 120) (fun k => if k = 3 then nI n else I 120 k) (I c))
theorem TK0_step {I : pm_II} {n i : Nat} : pm_up (TK0 I n i) 122 i (I 121 i) = TK0 I n (i + 1) := by
  funext c k
  by_cases h1 : c = 122
  · subst h1
    simp only [pm_up, TK0, nb_t, cond_true]
    by_cases h : k = i
    · subst h; simp
    · simp only [h, if_false]
      by_cases h5 : k < i
      · simp [h5, show k < i + 1 by omega]
      · simp [h5, show ¬ k < i + 1 by omega]
  · simp only [pm_up, TK0, nb_f h1, cond_false]
theorem TK0_end {I : pm_II} {n : Nat} : pm_up (pm_up (pm_up (TK0 I n n) 120 2 0) 120 4 0) 120 5 (-1) = mc (TK I n) 0 none := by
  funext c k
  by_cases h1 : c = 120
  · subst h1
    have e1 : Nat.beq 120 122 = false := rfl
    simp only [pm_up, TK0, TK, M2, nb_t, cond_true, e1, cond_false]
    by_cases h5 : k = 5
    · subst h5; rfl
    · by_cases h4 : k = 4
      · subst h4; rfl
      · by_cases h2 : k = 2
        · subst h2; rfl
        · simp [h5, h4, h2]
  · simp only [pm_up, TK0, TK, M2, nb_f h1, cond_false]
theorem m_take10 (hn : n ≤ 1600) : ∀ (m N i : Nat), i + m = n → m < N → F_Mo_take_10 u N (nI i) (TK0 I n i) J = some ((), mc (TK I n) 0 none, J) := by
  intro m
  induction m with
  | zero =>
    intro N i hi hN
    obtain ⟨N, rfl⟩ : ∃ k, N = k + 1 := ⟨N - 1, by omega⟩
    have h3 : (TK0 I n i) 120 3 = nI n := rfl
    rw [F_Mo_take_10, h3, if_pos (by rw [nI_leI (by omega) (by omega)]; omega), show i = n by omega, TK0_end]
  | succ m ih =>
    intro N i hi hN
    obtain ⟨N, rfl⟩ : ∃ k, N = k + 1 := ⟨N - 1, by omega⟩
    have h3 : (TK0 I n i) 120 3 = nI n := rfl
    have h121 : (TK0 I n i) 121 = I 121 := rfl
    rw [F_Mo_take_10, h3, h121, if_neg (by rw [nI_leI (by omega) (by omega)]; omega), nI_clamp (by omega), TK0_step, vq_nI (by omega), nI_io1, nI_add]
    have d1 : decide (i < 1600) = true := by simp; omega
    rw [d1, cond_true, cond_true]
    exact ih N (i + 1) (by omega) (by omega)
theorem m_take (hu : 1602 ≤ u) (hn : n ≤ 1600) (h2 : I 120 2 = nI n) : F_Mo_take u I J = some ((), mc (TK I n) 0 none, J) := by
  unfold F_Mo_take
  have e : pm_up I 120 3 (I 120 2) = TK0 I n 0 := by
    rw [h2]
    funext c k
    by_cases h1 : c = 120
    · subst h1
      have e1 : Nat.beq 120 122 = false := rfl
      simp only [pm_up, TK0, nb_t, cond_true, e1, cond_false]
    · by_cases h5 : c = 122
      · subst h5
        simp only [pm_up, TK0, nb_t, cond_true, nb_f h1, cond_false, Nat.not_lt_zero, if_false]
      · simp only [pm_up, TK0, nb_f h1, nb_f h5, cond_false]
  rw [e]
  exact m_take10 hn n u 0 (by omega) (by omega)
theorem TK_Mb (hn : n ≤ 1600) (hb : ∀ j, j < n → I 121 j = b j) : Mb b n (TK I n) := by
  refine ⟨fun j hj => ?_, rfl, hn⟩
  show (if j < n then I 121 j else I 122 j) = b j
  rw [if_pos hj]; exact hb j hj
end WordModel
