/-! ===== locals that nobody looks at may hold anything of one word ===== -/
def wk1 (a b : Value) : Prop := a = b ∨ (a = .null ∧ b.category = 1)
def wk : List Value → List Value → Prop
  | [], [] => True
  | a :: l, b :: m => wk1 a b ∧ wk l m
  | _, _ => False
theorem wk_refl : ∀ l, wk l l
  | [] => trivial
  | _ :: l => ⟨Or.inl rfl, wk_refl l⟩
theorem wk_len : ∀ {l m : List Value}, wk l m → l.length = m.length
  | [], [], _ => rfl
  | _ :: _, _ :: _, h => congrArg (· + 1) (wk_len h.2)
  | [], _ :: _, h => h.elim
  | _ :: _, [], h => h.elim
theorem wk_get : ∀ {l m : List Value} (j : Nat) (v : Value), wk l m → l[j]? = some v → ∃ w, m[j]? = some w ∧ wk1 v w
  | [], [], j, v, _, h => by simp at h
  | a :: l, b :: m, 0, v, h, e => ⟨b, rfl, by simp at e; rw [← e]; exact h.1⟩
  | a :: l, b :: m, j + 1, v, h, e => by
    have := wk_get j v h.2 (by simpa using e)
    simpa using this
  | [], _ :: _, _, _, h, _ => h.elim
  | _ :: _, [], _, _, h, _ => h.elim
theorem wk_set : ∀ {l m : List Value} (j : Nat) (v : Value), wk l m → wk (l.set j v) (m.set j v)
  | [], [], j, v, _ => by simp [wk]
  | a :: l, b :: m, 0, v, h => ⟨Or.inl rfl, h.2⟩
  | a :: l, b :: m, j + 1, v, h => ⟨h.1, wk_set j v h.2⟩
  | [], _ :: _, _, _, h => h.elim
  | _ :: _, [], _, _, h => h.elim
theorem wk_ld {i : Instr} {l m : List Value} {v : Value} (h : wk l m) (hl : pm_ld i l = some v) : pm_ld i m = some v := by
  have key : ∀ j : Nat, ∀ w, l[j]? = some w → w ≠ .null → m[j]? = some w := by
    intro j w e hn
    obtain ⟨w2, e2, q⟩ := wk_get j w h e
    rcases q with q | q
    · rw [q]; exact e2
    · exact absurd q.1 hn
  unfold pm_ld at hl ⊢
  split at hl <;> (try (split at hl)) <;> first | (cases hl; done) | skip
  all_goals
    rename_i x e
    cases hl
    have := key _ _ e (by intro q; cases q)
    simp only [this]
theorem wk_fr {l m : List Value} (h : wk l m) (j : Nat) (hf : pm_fr l j = true) : pm_fr m j = true := by
  cases j with
  | zero => rfl
  | succ j =>
    unfold pm_fr at hf ⊢
    dsimp only at hf ⊢
    cases hm : m[j]? with
    | none => rfl
    | some w =>
      have hjm : j < m.length := by
        rcases Nat.lt_or_ge j m.length with q | q
        · exact q
        · rw [List.getElem?_eq_none q] at hm; cases hm
      have hjl : j < l.length := by rw [wk_len h]; exact hjm
      obtain ⟨w2, e2, q⟩ := wk_get j l[j] h (List.getElem?_eq_getElem hjl)
      rw [hm] at e2
      cases e2
      rw [List.getElem?_eq_getElem hjl] at hf
      rcases q with q | q
      · rw [← q]; exact hf
      · cases w <;> first | rfl | (have := q.2; simp [Value.category] at this)
theorem wk_bl {l m : List Value} (h : wk l m) (j : Nat) : Nat.blt j m.length = Nat.blt j l.length := by rw [wk_len h]
theorem wk_sto {i : Instr} {st st' l l' m : List Value} (h : wk l m) (hs : pm_sto i st l = some (st', l')) : ∃ m', pm_sto i st m = some (st', m') ∧ wk l' m' := by
  have c1 : ∀ (a b : Bool) (x : Option (List Value × List Value)) (y : List Value × List Value), cond (a && b) x none = some y → a = true ∧ b = true ∧ x = some y := by
    intro a b x y e
    cases a <;> cases b <;> first | (cases e; done) | exact ⟨rfl, rfl, e⟩
  unfold pm_sto at hs ⊢
  split at hs
  · obtain ⟨a, b, e⟩ := c1 _ _ _ _ hs; cases e
    exact ⟨_, by simp only [wk_fr h _ a, wk_bl h, b, Bool.and_true, cond_true], wk_set _ _ h⟩
  · obtain ⟨a, b, e⟩ := c1 _ _ _ _ hs; cases e
    exact ⟨_, by simp only [wk_fr h _ a, wk_bl h, b, Bool.and_true, cond_true], wk_set _ _ h⟩
  · obtain ⟨a, b, e⟩ := c1 _ _ _ _ hs; cases e
    exact ⟨_, by simp only [wk_fr h _ a, wk_bl h, b, Bool.and_true, cond_true], wk_set _ _ h⟩
  · obtain ⟨a, b, e⟩ := c1 _ _ _ _ hs; cases e
    exact ⟨_, by simp only [wk_fr h _ a, wk_bl h, b, Bool.and_true, cond_true], wk_set _ _ h⟩
  · obtain ⟨a, b, e⟩ := c1 _ _ _ _ hs; cases e
    exact ⟨_, by simp only [pm_fr2, wk_fr h _ a, wk_bl h, b, Bool.and_true, cond_true], wk_set _ _ (wk_set _ _ h)⟩
  · obtain ⟨a, b, e⟩ := c1 _ _ _ _ hs; cases e
    exact ⟨_, by simp only [pm_fr2, wk_fr h _ a, wk_bl h, b, Bool.and_true, cond_true], wk_set _ _ (wk_set _ _ h)⟩
  · rename_i r j n
    split at hs
    · rename_i x e
      cases hf : pm_fr l j with
      | false => rw [hf] at hs; cases hs
      | true =>
        rw [hf] at hs
        cases hs
        obtain ⟨w2, e2, q⟩ := wk_get j _ h e
        rcases q with q | q
        · cases q
          exact ⟨_, by simp only [e2, wk_fr h _ hf, cond_true], wk_set _ _ h⟩
        · cases q.1
    · cases hs
  · cases hs
def wk_P : pm_J := fun k N Y pc L st h Q => ∀ L2, wk L L2 → Px k N Y pc L2 st h Q
theorem wk_c0 : pm_c0 wk_P := fun k N Y pc L st h Q Q' q0 q1 L2 hw => x_m q0 (q1 L2 hw)
theorem wk_c1 : pm_c1 wk_P := fun k N Y pc L st h Q i len x st' q0 q1 q2 L2 hw => fun P0 hP0 => hP0.1.2.1 _ _ _ _ _ _ _ _ _ _ _ _ q0 q1 (q2 L2 hw P0 hP0)
theorem wk_c2 : pm_c2 wk_P := fun k N Y pc L st h Q i len x v q0 q1 q2 L2 hw => x_l _ q0 (wk_ld hw q1) rfl (q2 L2 hw)
theorem wk_c3 : pm_c3 wk_P := fun k N Y pc L st h Q i len x st' L' q0 q1 q2 L2 hw => by
  obtain ⟨m, e, w⟩ := wk_sto hw q1
  exact x_t _ q0 e rfl (q2 m w)
theorem wk_c4 : pm_c4 wk_P := fun k N Y pc L st h Q i len t x c st' q0 q1 q2 q3 L2 hw => fun P0 hP0 => hP0.1.2.2.2.2.1 _ _ _ _ _ _ _ _ _ _ _ _ _ _ q0 q1 (fun z => q2 z L2 hw P0 hP0) (fun z => q3 z L2 hw P0 hP0)
theorem wk_c5 : pm_c5 wk_P := fun k N Y pc L st h Q o len t x q0 q1 L2 hw => fun P0 hP0 => hP0.1.2.2.2.2.2.1 _ _ _ _ _ _ _ _ _ _ _ _ q0 (q1 L2 hw P0 hP0)
theorem wk_c6 : pm_c6 wk_P := fun k N Y pc L st h Q d lo hi offs len x v tgt off q0 q1 q2 q3 q4 q5 L2 hw => fun P0 hP0 => hP0.1.2.2.2.2.2.2.1 _ _ _ _ _ _ _ _ _ _ _ _ _ _ _ _ _ q0 q1 q2 q3 q4 (q5 L2 hw P0 hP0)
theorem wk_c7 : pm_c7 wk_P := fun k N Y pc L st h Q d lo hi offs len x v tgt q0 q1 q2 q3 L2 hw => fun P0 hP0 => hP0.1.2.2.2.2.2.2.2.1 _ _ _ _ _ _ _ _ _ _ _ _ _ _ _ _ q0 q1 q2 (q3 L2 hw P0 hP0)
theorem wk_c8 : pm_c8 wk_P := fun k N Y pc L st h Q len x v w q0 q1 q2 L2 hw => fun P0 hP0 => hP0.1.2.2.2.2.2.2.2.2.1 _ _ _ _ _ _ _ _ _ _ _ _ q0 q1 (q2 L2 hw P0 hP0)
theorem wk_c9 : pm_c9 wk_P := fun k N Y pc L st h Q len x v w q0 q1 q2 L2 hw => fun P0 hP0 => hP0.1.2.2.2.2.2.2.2.2.2.1 _ _ _ _ _ _ _ _ _ _ _ _ q0 q1 (q2 L2 hw P0 hP0)
theorem wk_c10 : pm_c10 wk_P := fun k N Y pc L st h Q len x v w q0 q1 q2 L2 hw => fun P0 hP0 => hP0.1.2.2.2.2.2.2.2.2.2.2.1 _ _ _ _ _ _ _ _ _ _ _ _ q0 q1 (q2 L2 hw P0 hP0)
theorem wk_c11 : pm_c11 wk_P := fun k N Y pc L st h Q len x v w q0 q1 L2 hw => fun P0 hP0 => hP0.1.2.2.2.2.2.2.2.2.2.2.2 _ _ _ _ _ _ _ _ _ _ _ _ q0 (q1 L2 hw P0 hP0)
theorem wk_c12 : pm_c12 wk_P := fun k N Y pc L st h Q idx len ci f t a q0 q1 q2 q3 q4 L2 hw => fun P0 hP0 => hP0.2.1.1 _ _ _ _ _ _ _ _ _ _ _ _ _ _ q0 q1 q2 q3 (q4 L2 hw P0 hP0)
theorem wk_c13 : pm_c13 wk_P := fun k N Y pc L st h Q idx len ci f t a x q0 q1 q2 q3 q4 q5 q6 q7 L2 hw => fun P0 hP0 => hP0.2.1.2.1 _ _ _ _ _ _ _ _ _ _ _ _ _ _ _ q0 q1 q2 q3 q4 q5 q6 (q7 L2 hw P0 hP0)
theorem wk_c14 : pm_c14 wk_P := fun k N Y pc L st h Q idx len ci f a x q0 q1 q2 q3 q4 q5 L2 hw => fun P0 hP0 => hP0.2.1.2.2.1 _ _ _ _ _ _ _ _ _ _ _ _ _ _ q0 q1 q2 q3 q4 (q5 L2 hw P0 hP0)
theorem wk_c15 : pm_c15 wk_P := fun k N Y pc L st h Q idx len ci f a b q0 q1 q2 q3 q4 q5 L2 hw => fun P0 hP0 => hP0.2.1.2.2.2.1 _ _ _ _ _ _ _ _ _ _ _ _ _ _ q0 q1 q2 q3 q4 (q5 L2 hw P0 hP0)
theorem wk_c16 : pm_c16 wk_P := fun k N Y pc L st h Q len x a j q0 q1 q2 q3 q4 q5 L2 hw => fun P0 hP0 => hP0.2.1.2.2.2.2.1 _ _ _ _ _ _ _ _ _ _ _ _ q0 q1 q2 q3 q4 (q5 L2 hw P0 hP0)
theorem wk_c17 : pm_c17 wk_P := fun k N Y pc L st h Q len x a j v q0 q1 q2 q3 q4 q5 L2 hw => fun P0 hP0 => hP0.2.1.2.2.2.2.2.1 _ _ _ _ _ _ _ _ _ _ _ _ _ q0 q1 q2 q3 q4 (q5 L2 hw P0 hP0)
theorem wk_c18 : pm_c18 wk_P := fun k N Y pc L st h Q len x a j q0 q1 q2 q3 q4 q5 L2 hw => fun P0 hP0 => hP0.2.1.2.2.2.2.2.2.1 _ _ _ _ _ _ _ _ _ _ _ _ q0 q1 q2 q3 q4 (q5 L2 hw P0 hP0)
theorem wk_c19 : pm_c19 wk_P := fun k N Y pc L st h Q len x a j v q0 q1 q2 q3 q4 q5 q6 L2 hw => fun P0 hP0 => hP0.2.1.2.2.2.2.2.2.2.1 _ _ _ _ _ _ _ _ _ _ _ _ _ q0 q1 q2 q3 q4 q5 (q6 L2 hw P0 hP0)
theorem wk_c20 : pm_c20 wk_P := fun k N Y pc L st h Q len x a j q0 q1 q2 q3 q4 q5 L2 hw => fun P0 hP0 => hP0.2.1.2.2.2.2.2.2.2.2.1 _ _ _ _ _ _ _ _ _ _ _ _ q0 q1 q2 q3 q4 (q5 L2 hw P0 hP0)
theorem wk_c21 : pm_c21 wk_P := fun k N Y pc L st h Q len x a j v q0 q1 q2 q3 q4 q5 L2 hw => fun P0 hP0 => hP0.2.1.2.2.2.2.2.2.2.2.2.1 _ _ _ _ _ _ _ _ _ _ _ _ _ q0 q1 q2 q3 q4 (q5 L2 hw P0 hP0)
theorem wk_c22 : pm_c22 wk_P := fun k N Y pc L st h Q len x a j q0 q1 q2 q3 q4 q5 L2 hw => fun P0 hP0 => hP0.2.1.2.2.2.2.2.2.2.2.2.2.1 _ _ _ _ _ _ _ _ _ _ _ _ q0 q1 q2 q3 q4 (q5 L2 hw P0 hP0)
theorem wk_c23 : pm_c23 wk_P := fun k N Y pc L st h Q len x a b j q0 q1 q2 q3 q4 q5 q6 q7 q8 L2 hw => fun P0 hP0 => hP0.2.1.2.2.2.2.2.2.2.2.2.2.2.1 _ _ _ _ _ _ _ _ _ _ _ _ _ q0 q1 q2 q3 q4 q5 q6 q7 (q8 L2 hw P0 hP0)
theorem wk_c24 : pm_c24 wk_P := fun k N Y pc L st h Q len x a q0 q1 q2 q3 q4 L2 hw => fun P0 hP0 => hP0.2.1.2.2.2.2.2.2.2.2.2.2.2.2 _ _ _ _ _ _ _ _ _ _ _ q0 q1 q2 q3 (q4 L2 hw P0 hP0)
theorem wk_c25 : pm_c25 wk_P := fun k N Y pc L st h Q len x q0 q1 L2 hw => fun P0 hP0 => hP0.2.2.1.1 _ _ _ _ _ _ _ _ _ _ q0 (q1 L2 hw P0 hP0)
theorem wk_c26 : pm_c26 wk_P := fun k N Y pc L st h Q len x j q0 q1 q2 L2 hw => fun P0 hP0 => hP0.2.2.1.2.1 _ _ _ _ _ _ _ _ _ _ _ q0 q1 (q2 L2 hw P0 hP0)
theorem wk_c27 : pm_c27 wk_P := fun k N Y pc L st h Q len x a j q0 q1 q2 q3 L2 hw => fun P0 hP0 => hP0.2.2.1.2.2.1 _ _ _ _ _ _ _ _ _ _ _ _ q0 q1 q2 (q3 L2 hw P0 hP0)
theorem wk_c28 : pm_c28 wk_P := fun k N Y pc L st h Q idx len t x q0 q1 L2 hw => fun P0 hP0 => hP0.2.2.1.2.2.2.1 _ _ _ _ _ _ _ _ _ _ _ _ q0 (q1 L2 hw P0 hP0)
theorem wk_c29 : pm_c29 wk_P := fun k N Y pc L st h Q i idx len v x q0 q1 q2 L2 hw => fun P0 hP0 => hP0.2.2.1.2.2.2.2.1 _ _ _ _ _ _ _ _ _ _ _ _ _ q0 q1 (q2 L2 hw P0 hP0)
theorem wk_c30 : pm_c30 wk_P := fun k N Y pc L st h Q idx len v x t q0 q1 L2 hw => fun P0 hP0 => hP0.2.2.1.2.2.2.2.2.1 _ _ _ _ _ _ _ _ _ _ _ _ _ q0 (q1 L2 hw P0 hP0)
theorem wk_c31 : pm_c31 wk_P := fun k N Y pc L st h Q i idx len v x q0 q1 q2 L2 hw => fun P0 hP0 => hP0.2.2.1.2.2.2.2.2.2.1 _ _ _ _ _ _ _ _ _ _ _ _ _ q0 q1 (q2 L2 hw P0 hP0)
theorem wk_c32 : pm_c32 wk_P := fun k N Y pc L st h Q idx len x a q0 q1 q2 q3 q4 q5 q6 L2 hw => fun P0 hP0 => hP0.2.2.1.2.2.2.2.2.2.2.1 _ _ _ _ _ _ _ _ _ _ _ _ q0 q1 q2 q3 q4 q5 (q6 L2 hw P0 hP0)
theorem wk_c33 : pm_c33 wk_P := fun k N Y pc L st h Q idx len x a j q0 q1 q2 q3 q4 q5 q6 q7 L2 hw => fun P0 hP0 => hP0.2.2.1.2.2.2.2.2.2.2.2.1 _ _ _ _ _ _ _ _ _ _ _ _ _ q0 q1 q2 q3 q4 q5 q6 (q7 L2 hw P0 hP0)
theorem wk_c34 : pm_c34 wk_P := fun k N Y pc L st h Q idx len ci x q0 q1 q2 q3 q4 L2 hw => fun P0 hP0 => hP0.2.2.1.2.2.2.2.2.2.2.2.2.1 _ _ _ _ _ _ _ _ _ _ _ _ q0 q1 q2 q3 (q4 L2 hw P0 hP0)
theorem wk_c35 : pm_c35 wk_P := fun k N Y pc L st h Q len x at' v q0 q1 q2 q3 q4 q5 q6 L2 hw => fun P0 hP0 => hP0.2.2.1.2.2.2.2.2.2.2.2.2.2.1 _ _ _ _ _ _ _ _ _ _ _ _ q0 q1 q2 q3 q4 q5 (q6 L2 hw P0 hP0)
theorem wk_c36 : pm_c36 wk_P := fun k N Y pc L st h Q idx len x v q0 q1 q2 q3 q4 q5 q6 q7 L2 hw => fun P0 hP0 => hP0.2.2.1.2.2.2.2.2.2.2.2.2.2.2 _ _ _ _ _ _ _ _ _ _ _ _ q0 q1 q2 q3 q4 q5 q6 (q7 L2 hw P0 hP0)
theorem wk_c37 : pm_c37 wk_P := fun k N N' Y pc L rest h Q idx len z x Y' As b q0 q1 q2 q3 q4 q5 q6 q7 q8 q9 q10 q11 q12 L2 hw => fun P0 hP0 => hP0.2.2.2.1 _ _ _ _ _ _ _ _ _ _ _ _ _ _ _ _ q0 q1 q2 q3 q4 q5 q6 q7 q8 q9 q10 q11 (hP0.1.1 _ _ _ _ _ _ _ _ _ (fun r h' z => ⟨z.1, z.2 L2 hw P0 hP0⟩) ((q12 _ (wk_refl _)) P0 hP0))
theorem wk_c38 : pm_c38 wk_P := fun k N N' Y pc L rest h Q idx len z x Y' As q0 q1 q2 q3 q4 q5 q6 q7 q8 L2 hw => fun P0 hP0 => hP0.2.2.2.2.1 _ _ _ _ _ _ _ _ _ _ _ _ _ _ _ q0 q1 q2 q3 q4 q5 q6 q7 (hP0.1.1 _ _ _ _ _ _ _ _ _ (fun r h' z => ⟨z.1, z.2 L2 hw P0 hP0⟩) ((q8 _ (wk_refl _)) P0 hP0))
theorem wk_c39 : pm_c39 wk_P := fun k N N' Y pc L rest h Q idx len z x Y' As b q0 q1 q2 q3 q4 q5 q6 q7 q8 L2 hw => fun P0 hP0 => hP0.2.2.2.2.2.1 _ _ _ _ _ _ _ _ _ _ _ _ _ _ _ _ q0 q1 q2 q3 q4 q5 q6 q7 (hP0.1.1 _ _ _ _ _ _ _ _ _ (fun r h' z => ⟨z.1, z.2 L2 hw P0 hP0⟩) ((q8 _ (wk_refl _)) P0 hP0))
theorem wk_c40 : pm_c40 wk_P := fun k N Y pc L rest h Q idx len x b q0 q1 q2 q3 L2 hw => fun P0 hP0 => hP0.2.2.2.2.2.2.1 _ _ _ _ _ _ _ _ _ _ _ _ q0 q1 q2 (q3 L2 hw P0 hP0)
theorem wk_c41 : pm_c41 wk_P := fun k N Y pc L rest h Q idx len x a b sp dp n q0 q1 q2 q3 q4 q5 q6 q7 q8 q9 q10 q11 q12 q13 q14 L2 hw => fun P0 hP0 => hP0.2.2.2.2.2.2.2.1 _ _ _ _ _ _ _ _ _ _ _ _ _ _ _ _ q0 q1 q2 q3 q4 q5 q6 q7 q8 q9 q10 q11 q12 q13 (q14 L2 hw P0 hP0)
theorem wk_c42 : pm_c42 wk_P := fun k N Y pc L h Q len x v q0 q1 q2 L2 hw => fun P0 hP0 => hP0.2.2.2.2.2.2.2.2.1 _ _ _ _ _ _ _ _ _ _ q0 q1 q2
theorem wk_c43 : pm_c43 wk_P := fun k N Y pc L h Q len x v q0 q1 q2 L2 hw => fun P0 hP0 => hP0.2.2.2.2.2.2.2.2.2.1 _ _ _ _ _ _ _ _ _ _ q0 q1 q2
theorem wk_c44 : pm_c44 wk_P := fun k N Y pc L h Q len x q0 q1 q2 L2 hw => fun P0 hP0 => hP0.2.2.2.2.2.2.2.2.2.2 _ _ _ _ _ _ _ _ _ q0 q1 q2
theorem Px_wk {k N : Nat} {Y : pm_M} {pc : Nat} {L L2 st : List Value} {h : pm_H} {Q : Option Value → pm_H → Prop} (hk : Px k N Y pc L st h Q) (hw : wk L L2) : Px k N Y pc L2 st h Q :=
  hk wk_P ⟨⟨wk_c0, wk_c1, wk_c2, wk_c3, wk_c4, wk_c5, wk_c6, wk_c7, wk_c8, wk_c9, wk_c10, wk_c11⟩, ⟨wk_c12, wk_c13, wk_c14, wk_c15, wk_c16, wk_c17, wk_c18, wk_c19, wk_c20, wk_c21, wk_c22, wk_c23, wk_c24⟩, ⟨wk_c25, wk_c26, wk_c27, wk_c28, wk_c29, wk_c30, wk_c31, wk_c32, wk_c33, wk_c34, wk_c35, wk_c36⟩, ⟨wk_c37, wk_c38, wk_c39, wk_c40, wk_c41, wk_c42, wk_c43, wk_c44⟩⟩ L2 hw
/-- the code stores nothing into this slot, nor counts it up -/
def nst1 (s : Nat) (x : Option pm_I) : Bool := match x with
  | some (.istore j, _) => !(Nat.beq j s)
  | some (.istore_n j, _) => !(Nat.beq j s)
  | some (.astore j, _) => !(Nat.beq j s)
  | some (.astore_n j, _) => !(Nat.beq j s)
  | some (.lstore j, _) => !(Nat.beq j s)
  | some (.lstore_n j, _) => !(Nat.beq j s)
  | some (.iinc j _, _) => !(Nat.beq j s)
  | _ => true
def nstN (f : Nat → Option pm_I) (s : Nat) : Nat → Bool
  | 0 => true
  | n + 1 => nst1 s (f n) && nstN f s n
def nst (Y : pm_M) (s : Nat) : Bool := nstN (pm_cd Y) s (pm_ln Y)
theorem nstN_get {f : Nat → Option pm_I} {s : Nat} : ∀ n, nstN f s n = true → ∀ pc, pc < n → nst1 s (f pc) = true
  | 0, _, pc, h => absurd h (Nat.not_lt_zero _)
  | n + 1, hn, pc, h => by
    unfold nstN at hn
    have hn := (Bool.and_eq_true _ _).mp hn
    by_cases e : pc = n
    · rw [e]; exact hn.1
    · exact nstN_get n hn.2 pc (by omega)
theorem nst_get {Y : pm_M} {s pc : Nat} {x : pm_I} (h : nst Y s = true) (hi : pm_ins Y pc = some x) : nst1 s (some x) = true := by
  unfold pm_ins at hi
  cases hb : Nat.blt pc (pm_ln Y) with
  | false => rw [hb] at hi; cases hi
  | true =>
    rw [hb] at hi
    have hi : pm_cd Y pc = some x := hi
    rw [← hi]
    exact nstN_get _ h pc (Nat.le_of_ble_eq_true hb)
def wj (Y : pm_M) (L L2 : List Value) : Prop := L = L2 ∨ ∃ (i : Nat) (y : Int64), nst Y (i + 1) = true ∧ L[i]? = some .null ∧ L2 = L.set i (.long y)
theorem wj_ld {Y : pm_M} {i : Instr} {l m : List Value} {v : Value} (h : wj Y l m) (hl : pm_ld i l = some v) : pm_ld i m = some v := by
  rcases h with h | ⟨s, y, h1, h2, h3⟩
  · rw [← h]; exact hl
  · have key : ∀ j : Nat, ∀ w, l[j]? = some w → w ≠ .null → m[j]? = some w := by
      intro j w e hn
      rw [h3, List.getElem?_set_ne]
      · exact e
      · intro q; rw [q, e] at h2; exact hn (Option.some.inj h2)
    unfold pm_ld at hl ⊢
    split at hl <;> (try (split at hl)) <;> first | (cases hl; done) | skip
    all_goals
      rename_i x e
      cases hl
      have := key _ _ e (by intro q; cases q)
      simp only [this]
theorem wj_fr {l : List Value} {s j : Nat} {w : Value} (h : j ≠ s + 1) : pm_fr (l.set s w) j = pm_fr l j := by
  cases j with
  | zero => rfl
  | succ j =>
    unfold pm_fr
    dsimp only
    rw [List.getElem?_set_ne (by omega)]
theorem set_set_same (l : List Value) (s : Nat) (a b : Value) : (l.set s a).set s b = l.set s b := by simp
theorem set_comm' (l : List Value) {s t : Nat} (h : s ≠ t) (a b : Value) : (l.set s a).set t b = (l.set t b).set s a := List.set_comm _ _ h
theorem beq_no {a b : Nat} (h : (!(Nat.beq a b)) = true) : a ≠ b := by
  intro e
  rw [e, nb_t] at h
  cases h
theorem wj_sto {Y : pm_M} {pc : Nat} {i : Instr} {x : Nat × Nat × Nat × Nat} {st st' l l' m : List Value} (hi : pm_ins Y pc = some (i, x)) (h : wj Y l m) (hs : pm_sto i st l = some (st', l')) : ∃ m', pm_sto i st m = some (st', m') ∧ wj Y l' m' := by
  rcases h with h | ⟨s, y, h1, h2, h3⟩
  · rw [← h]; exact ⟨l', hs, Or.inl rfl⟩
  · have hN := nst_get h1 hi
    have c1 : ∀ (a b : Bool) (x : Option (List Value × List Value)) (y : List Value × List Value), cond (a && b) x none = some y → a = true ∧ b = true ∧ x = some y := by
      intro a b x y e
      cases a <;> cases b <;> first | (cases e; done) | exact ⟨rfl, rfl, e⟩
    have one : ∀ (j : Nat) (v : Value), j ≠ s + 1 → wj Y (l.set j v) (m.set j v) := by
      intro j v hj
      by_cases e : j = s
      · left; rw [h3, e, set_set_same]
      · right
        refine ⟨s, y, h1, ?_, ?_⟩
        · rw [List.getElem?_set_ne e]; exact h2
        · rw [h3, set_comm' _ (Ne.symm e)]
    have two : ∀ (j : Nat) (v w : Value), j ≠ s + 1 → wj Y ((l.set j v).set (j + 1) w) ((m.set j v).set (j + 1) w) := by
      intro j v w hj
      by_cases e : j = s
      · left; rw [h3, e, set_set_same]
      · by_cases e2 : j + 1 = s
        · left; rw [h3, e2, set_comm' l (Ne.symm e), set_set_same]
        · right
          refine ⟨s, y, h1, ?_, ?_⟩
          · rw [List.getElem?_set_ne e2, List.getElem?_set_ne e]; exact h2
          · rw [h3, set_comm' l (Ne.symm e), set_comm' _ (Ne.symm e2)]
    have hfr : ∀ j, j ≠ s + 1 → pm_fr m j = pm_fr l j := fun j hj => by rw [h3]; exact wj_fr hj
    have hln : m.length = l.length := by rw [h3]; simp
    unfold pm_sto at hs ⊢
    split at hs
    · have hj := beq_no hN
      obtain ⟨a, b, e⟩ := c1 _ _ _ _ hs; cases e
      exact ⟨_, by simp only [hfr _ hj, a, hln, b, Bool.and_true, cond_true], one _ _ hj⟩
    · have hj := beq_no hN
      obtain ⟨a, b, e⟩ := c1 _ _ _ _ hs; cases e
      exact ⟨_, by simp only [hfr _ hj, a, hln, b, Bool.and_true, cond_true], one _ _ hj⟩
    · have hj := beq_no hN
      obtain ⟨a, b, e⟩ := c1 _ _ _ _ hs; cases e
      exact ⟨_, by simp only [hfr _ hj, a, hln, b, Bool.and_true, cond_true], one _ _ hj⟩
    · have hj := beq_no hN
      obtain ⟨a, b, e⟩ := c1 _ _ _ _ hs; cases e
      exact ⟨_, by simp only [hfr _ hj, a, hln, b, Bool.and_true, cond_true], one _ _ hj⟩
    · have hj := beq_no hN
      obtain ⟨a, b, e⟩ := c1 _ _ _ _ hs; cases e
      exact ⟨_, by simp only [pm_fr2, hfr _ hj, a, hln, b, Bool.and_true, cond_true], two _ _ _ hj⟩
    · have hj := beq_no hN
      obtain ⟨a, b, e⟩ := c1 _ _ _ _ hs; cases e
      exact ⟨_, by simp only [pm_fr2, hfr _ hj, a, hln, b, Bool.and_true, cond_true], two _ _ _ hj⟩
    · rename_i r j n
      have hj := beq_no hN
      split at hs
      · rename_i x e
        cases hf : pm_fr l j with
        | false => rw [hf] at hs; cases hs
        | true =>
          rw [hf] at hs
          cases hs
          have e2 : m[j]? = some (.int x) := by
            rw [h3, List.getElem?_set_ne]
            · exact e
            · intro q; rw [q, e] at h2; cases h2
          exact ⟨_, by simp only [e2, hfr _ hj, hf, cond_true], one _ _ hj⟩
      · cases hs
    · cases hs
def wj_P : pm_J := fun k N Y pc L st h Q => ∀ L2, wj Y L L2 → Px k N Y pc L2 st h Q
theorem wj_c0 : pm_c0 wj_P := fun k N Y pc L st h Q Q' q0 q1 L2 hw => x_m q0 (q1 L2 hw)
theorem wj_c1 : pm_c1 wj_P := fun k N Y pc L st h Q i len x st' q0 q1 q2 L2 hw => fun P0 hP0 => hP0.1.2.1 _ _ _ _ _ _ _ _ _ _ _ _ q0 q1 (q2 L2 hw P0 hP0)
theorem wj_c2 : pm_c2 wj_P := fun k N Y pc L st h Q i len x v q0 q1 q2 L2 hw => x_l _ q0 (wj_ld hw q1) rfl (q2 L2 hw)
theorem wj_c3 : pm_c3 wj_P := fun k N Y pc L st h Q i len x st' L' q0 q1 q2 L2 hw => by
  obtain ⟨m, e, w⟩ := wj_sto q0 hw q1
  exact x_t _ q0 e rfl (q2 m w)
theorem wj_c4 : pm_c4 wj_P := fun k N Y pc L st h Q i len t x c st' q0 q1 q2 q3 L2 hw => fun P0 hP0 => hP0.1.2.2.2.2.1 _ _ _ _ _ _ _ _ _ _ _ _ _ _ q0 q1 (fun z => q2 z L2 hw P0 hP0) (fun z => q3 z L2 hw P0 hP0)
theorem wj_c5 : pm_c5 wj_P := fun k N Y pc L st h Q o len t x q0 q1 L2 hw => fun P0 hP0 => hP0.1.2.2.2.2.2.1 _ _ _ _ _ _ _ _ _ _ _ _ q0 (q1 L2 hw P0 hP0)
theorem wj_c6 : pm_c6 wj_P := fun k N Y pc L st h Q d lo hi offs len x v tgt off q0 q1 q2 q3 q4 q5 L2 hw => fun P0 hP0 => hP0.1.2.2.2.2.2.2.1 _ _ _ _ _ _ _ _ _ _ _ _ _ _ _ _ _ q0 q1 q2 q3 q4 (q5 L2 hw P0 hP0)
theorem wj_c7 : pm_c7 wj_P := fun k N Y pc L st h Q d lo hi offs len x v tgt q0 q1 q2 q3 L2 hw => fun P0 hP0 => hP0.1.2.2.2.2.2.2.2.1 _ _ _ _ _ _ _ _ _ _ _ _ _ _ _ _ q0 q1 q2 (q3 L2 hw P0 hP0)
theorem wj_c8 : pm_c8 wj_P := fun k N Y pc L st h Q len x v w q0 q1 q2 L2 hw => fun P0 hP0 => hP0.1.2.2.2.2.2.2.2.2.1 _ _ _ _ _ _ _ _ _ _ _ _ q0 q1 (q2 L2 hw P0 hP0)
theorem wj_c9 : pm_c9 wj_P := fun k N Y pc L st h Q len x v w q0 q1 q2 L2 hw => fun P0 hP0 => hP0.1.2.2.2.2.2.2.2.2.2.1 _ _ _ _ _ _ _ _ _ _ _ _ q0 q1 (q2 L2 hw P0 hP0)
theorem wj_c10 : pm_c10 wj_P := fun k N Y pc L st h Q len x v w q0 q1 q2 L2 hw => fun P0 hP0 => hP0.1.2.2.2.2.2.2.2.2.2.2.1 _ _ _ _ _ _ _ _ _ _ _ _ q0 q1 (q2 L2 hw P0 hP0)
theorem wj_c11 : pm_c11 wj_P := fun k N Y pc L st h Q len x v w q0 q1 L2 hw => fun P0 hP0 => hP0.1.2.2.2.2.2.2.2.2.2.2.2 _ _ _ _ _ _ _ _ _ _ _ _ q0 (q1 L2 hw P0 hP0)
theorem wj_c12 : pm_c12 wj_P := fun k N Y pc L st h Q idx len ci f t a q0 q1 q2 q3 q4 L2 hw => fun P0 hP0 => hP0.2.1.1 _ _ _ _ _ _ _ _ _ _ _ _ _ _ q0 q1 q2 q3 (q4 L2 hw P0 hP0)
theorem wj_c13 : pm_c13 wj_P := fun k N Y pc L st h Q idx len ci f t a x q0 q1 q2 q3 q4 q5 q6 q7 L2 hw => fun P0 hP0 => hP0.2.1.2.1 _ _ _ _ _ _ _ _ _ _ _ _ _ _ _ q0 q1 q2 q3 q4 q5 q6 (q7 L2 hw P0 hP0)
theorem wj_c14 : pm_c14 wj_P := fun k N Y pc L st h Q idx len ci f a x q0 q1 q2 q3 q4 q5 L2 hw => fun P0 hP0 => hP0.2.1.2.2.1 _ _ _ _ _ _ _ _ _ _ _ _ _ _ q0 q1 q2 q3 q4 (q5 L2 hw P0 hP0)
theorem wj_c15 : pm_c15 wj_P := fun k N Y pc L st h Q idx len ci f a b q0 q1 q2 q3 q4 q5 L2 hw => fun P0 hP0 => hP0.2.1.2.2.2.1 _ _ _ _ _ _ _ _ _ _ _ _ _ _ q0 q1 q2 q3 q4 (q5 L2 hw P0 hP0)
theorem wj_c16 : pm_c16 wj_P := fun k N Y pc L st h Q len x a j q0 q1 q2 q3 q4 q5 L2 hw => fun P0 hP0 => hP0.2.1.2.2.2.2.1 _ _ _ _ _ _ _ _ _ _ _ _ q0 q1 q2 q3 q4 (q5 L2 hw P0 hP0)
theorem wj_c17 : pm_c17 wj_P := fun k N Y pc L st h Q len x a j v q0 q1 q2 q3 q4 q5 L2 hw => fun P0 hP0 => hP0.2.1.2.2.2.2.2.1 _ _ _ _ _ _ _ _ _ _ _ _ _ q0 q1 q2 q3 q4 (q5 L2 hw P0 hP0)
theorem wj_c18 : pm_c18 wj_P := fun k N Y pc L st h Q len x a j q0 q1 q2 q3 q4 q5 L2 hw => fun P0 hP0 => hP0.2.1.2.2.2.2.2.2.1 _ _ _ _ _ _ _ _ _ _ _ _ q0 q1 q2 q3 q4 (q5 L2 hw P0 hP0)
theorem wj_c19 : pm_c19 wj_P := fun k N Y pc L st h Q len x a j v q0 q1 q2 q3 q4 q5 q6 L2 hw => fun P0 hP0 => hP0.2.1.2.2.2.2.2.2.2.1 _ _ _ _ _ _ _ _ _ _ _ _ _ q0 q1 q2 q3 q4 q5 (q6 L2 hw P0 hP0)
theorem wj_c20 : pm_c20 wj_P := fun k N Y pc L st h Q len x a j q0 q1 q2 q3 q4 q5 L2 hw => fun P0 hP0 => hP0.2.1.2.2.2.2.2.2.2.2.1 _ _ _ _ _ _ _ _ _ _ _ _ q0 q1 q2 q3 q4 (q5 L2 hw P0 hP0)
theorem wj_c21 : pm_c21 wj_P := fun k N Y pc L st h Q len x a j v q0 q1 q2 q3 q4 q5 L2 hw => fun P0 hP0 => hP0.2.1.2.2.2.2.2.2.2.2.2.1 _ _ _ _ _ _ _ _ _ _ _ _ _ q0 q1 q2 q3 q4 (q5 L2 hw P0 hP0)
theorem wj_c22 : pm_c22 wj_P := fun k N Y pc L st h Q len x a j q0 q1 q2 q3 q4 q5 L2 hw => fun P0 hP0 => hP0.2.1.2.2.2.2.2.2.2.2.2.2.1 _ _ _ _ _ _ _ _ _ _ _ _ q0 q1 q2 q3 q4 (q5 L2 hw P0 hP0)
theorem wj_c23 : pm_c23 wj_P := fun k N Y pc L st h Q len x a b j q0 q1 q2 q3 q4 q5 q6 q7 q8 L2 hw => fun P0 hP0 => hP0.2.1.2.2.2.2.2.2.2.2.2.2.2.1 _ _ _ _ _ _ _ _ _ _ _ _ _ q0 q1 q2 q3 q4 q5 q6 q7 (q8 L2 hw P0 hP0)
theorem wj_c24 : pm_c24 wj_P := fun k N Y pc L st h Q len x a q0 q1 q2 q3 q4 L2 hw => fun P0 hP0 => hP0.2.1.2.2.2.2.2.2.2.2.2.2.2.2 _ _ _ _ _ _ _ _ _ _ _ q0 q1 q2 q3 (q4 L2 hw P0 hP0)
theorem wj_c25 : pm_c25 wj_P := fun k N Y pc L st h Q len x q0 q1 L2 hw => fun P0 hP0 => hP0.2.2.1.1 _ _ _ _ _ _ _ _ _ _ q0 (q1 L2 hw P0 hP0)
theorem wj_c26 : pm_c26 wj_P := fun k N Y pc L st h Q len x j q0 q1 q2 L2 hw => fun P0 hP0 => hP0.2.2.1.2.1 _ _ _ _ _ _ _ _ _ _ _ q0 q1 (q2 L2 hw P0 hP0)
theorem wj_c27 : pm_c27 wj_P := fun k N Y pc L st h Q len x a j q0 q1 q2 q3 L2 hw => fun P0 hP0 => hP0.2.2.1.2.2.1 _ _ _ _ _ _ _ _ _ _ _ _ q0 q1 q2 (q3 L2 hw P0 hP0)
theorem wj_c28 : pm_c28 wj_P := fun k N Y pc L st h Q idx len t x q0 q1 L2 hw => fun P0 hP0 => hP0.2.2.1.2.2.2.1 _ _ _ _ _ _ _ _ _ _ _ _ q0 (q1 L2 hw P0 hP0)
theorem wj_c29 : pm_c29 wj_P := fun k N Y pc L st h Q i idx len v x q0 q1 q2 L2 hw => fun P0 hP0 => hP0.2.2.1.2.2.2.2.1 _ _ _ _ _ _ _ _ _ _ _ _ _ q0 q1 (q2 L2 hw P0 hP0)
theorem wj_c30 : pm_c30 wj_P := fun k N Y pc L st h Q idx len v x t q0 q1 L2 hw => fun P0 hP0 => hP0.2.2.1.2.2.2.2.2.1 _ _ _ _ _ _ _ _ _ _ _ _ _ q0 (q1 L2 hw P0 hP0)
theorem wj_c31 : pm_c31 wj_P := fun k N Y pc L st h Q i idx len v x q0 q1 q2 L2 hw => fun P0 hP0 => hP0.2.2.1.2.2.2.2.2.2.1 _ _ _ _ _ _ _ _ _ _ _ _ _ q0 q1 (q2 L2 hw P0 hP0)
theorem wj_c32 : pm_c32 wj_P := fun k N Y pc L st h Q idx len x a q0 q1 q2 q3 q4 q5 q6 L2 hw => fun P0 hP0 => hP0.2.2.1.2.2.2.2.2.2.2.1 _ _ _ _ _ _ _ _ _ _ _ _ q0 q1 q2 q3 q4 q5 (q6 L2 hw P0 hP0)
theorem wj_c33 : pm_c33 wj_P := fun k N Y pc L st h Q idx len x a j q0 q1 q2 q3 q4 q5 q6 q7 L2 hw => fun P0 hP0 => hP0.2.2.1.2.2.2.2.2.2.2.2.1 _ _ _ _ _ _ _ _ _ _ _ _ _ q0 q1 q2 q3 q4 q5 q6 (q7 L2 hw P0 hP0)
theorem wj_c34 : pm_c34 wj_P := fun k N Y pc L st h Q idx len ci x q0 q1 q2 q3 q4 L2 hw => fun P0 hP0 => hP0.2.2.1.2.2.2.2.2.2.2.2.2.1 _ _ _ _ _ _ _ _ _ _ _ _ q0 q1 q2 q3 (q4 L2 hw P0 hP0)
theorem wj_c35 : pm_c35 wj_P := fun k N Y pc L st h Q len x at' v q0 q1 q2 q3 q4 q5 q6 L2 hw => fun P0 hP0 => hP0.2.2.1.2.2.2.2.2.2.2.2.2.2.1 _ _ _ _ _ _ _ _ _ _ _ _ q0 q1 q2 q3 q4 q5 (q6 L2 hw P0 hP0)
theorem wj_c36 : pm_c36 wj_P := fun k N Y pc L st h Q idx len x v q0 q1 q2 q3 q4 q5 q6 q7 L2 hw => fun P0 hP0 => hP0.2.2.1.2.2.2.2.2.2.2.2.2.2.2 _ _ _ _ _ _ _ _ _ _ _ _ q0 q1 q2 q3 q4 q5 q6 (q7 L2 hw P0 hP0)
theorem wj_c37 : pm_c37 wj_P := fun k N N' Y pc L rest h Q idx len z x Y' As b q0 q1 q2 q3 q4 q5 q6 q7 q8 q9 q10 q11 q12 L2 hw => fun P0 hP0 => hP0.2.2.2.1 _ _ _ _ _ _ _ _ _ _ _ _ _ _ _ _ q0 q1 q2 q3 q4 q5 q6 q7 q8 q9 q10 q11 (hP0.1.1 _ _ _ _ _ _ _ _ _ (fun r h' z => ⟨z.1, z.2 L2 hw P0 hP0⟩) ((q12 _ (Or.inl rfl)) P0 hP0))
theorem wj_c38 : pm_c38 wj_P := fun k N N' Y pc L rest h Q idx len z x Y' As q0 q1 q2 q3 q4 q5 q6 q7 q8 L2 hw => fun P0 hP0 => hP0.2.2.2.2.1 _ _ _ _ _ _ _ _ _ _ _ _ _ _ _ q0 q1 q2 q3 q4 q5 q6 q7 (hP0.1.1 _ _ _ _ _ _ _ _ _ (fun r h' z => ⟨z.1, z.2 L2 hw P0 hP0⟩) ((q8 _ (Or.inl rfl)) P0 hP0))
theorem wj_c39 : pm_c39 wj_P := fun k N N' Y pc L rest h Q idx len z x Y' As b q0 q1 q2 q3 q4 q5 q6 q7 q8 L2 hw => fun P0 hP0 => hP0.2.2.2.2.2.1 _ _ _ _ _ _ _ _ _ _ _ _ _ _ _ _ q0 q1 q2 q3 q4 q5 q6 q7 (hP0.1.1 _ _ _ _ _ _ _ _ _ (fun r h' z => ⟨z.1, z.2 L2 hw P0 hP0⟩) ((q8 _ (Or.inl rfl)) P0 hP0))
theorem wj_c40 : pm_c40 wj_P := fun k N Y pc L rest h Q idx len x b q0 q1 q2 q3 L2 hw => fun P0 hP0 => hP0.2.2.2.2.2.2.1 _ _ _ _ _ _ _ _ _ _ _ _ q0 q1 q2 (q3 L2 hw P0 hP0)
theorem wj_c41 : pm_c41 wj_P := fun k N Y pc L rest h Q idx len x a b sp dp n q0 q1 q2 q3 q4 q5 q6 q7 q8 q9 q10 q11 q12 q13 q14 L2 hw => fun P0 hP0 => hP0.2.2.2.2.2.2.2.1 _ _ _ _ _ _ _ _ _ _ _ _ _ _ _ _ q0 q1 q2 q3 q4 q5 q6 q7 q8 q9 q10 q11 q12 q13 (q14 L2 hw P0 hP0)
theorem wj_c42 : pm_c42 wj_P := fun k N Y pc L h Q len x v q0 q1 q2 L2 hw => fun P0 hP0 => hP0.2.2.2.2.2.2.2.2.1 _ _ _ _ _ _ _ _ _ _ q0 q1 q2
theorem wj_c43 : pm_c43 wj_P := fun k N Y pc L h Q len x v q0 q1 q2 L2 hw => fun P0 hP0 => hP0.2.2.2.2.2.2.2.2.2.1 _ _ _ _ _ _ _ _ _ _ q0 q1 q2
theorem wj_c44 : pm_c44 wj_P := fun k N Y pc L h Q len x q0 q1 q2 L2 hw => fun P0 hP0 => hP0.2.2.2.2.2.2.2.2.2.2 _ _ _ _ _ _ _ _ _ q0 q1 q2
theorem Px_wj {k N : Nat} {Y : pm_M} {pc : Nat} {L st : List Value} {h : pm_H} {Q : Option Value → pm_H → Prop} (i : Nat) (y : Int64) (hn : nst Y (i + 1) = true) (hL : L[i]? = some .null) (hk : Px k N Y pc L st h Q) : Px k N Y pc (L.set i (.long y)) st h Q :=
  hk wj_P ⟨⟨wj_c0, wj_c1, wj_c2, wj_c3, wj_c4, wj_c5, wj_c6, wj_c7, wj_c8, wj_c9, wj_c10, wj_c11⟩, ⟨wj_c12, wj_c13, wj_c14, wj_c15, wj_c16, wj_c17, wj_c18, wj_c19, wj_c20, wj_c21, wj_c22, wj_c23, wj_c24⟩, ⟨wj_c25, wj_c26, wj_c27, wj_c28, wj_c29, wj_c30, wj_c31, wj_c32, wj_c33, wj_c34, wj_c35, wj_c36⟩, ⟨wj_c37, wj_c38, wj_c39, wj_c40, wj_c41, wj_c42, wj_c43, wj_c44⟩⟩ _ (Or.inr ⟨i, y, hn, hL, rfl⟩)
