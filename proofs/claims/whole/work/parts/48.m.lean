/-! ===== readers with a fault, and words read alike ===== -/
theorem ur {α : Type} {I : Nat → Nat → α} {c k : Nat} {v : α} {d j : Nat} : pm_up I c k v d j = if d = c ∧ j = k then v else I d j := by
  by_cases h : d = c
  · subst h
    rw [pm_up_at]
    by_cases h2 : j = k
    · rw [if_pos h2, if_pos ⟨rfl, h2⟩]
    · rw [if_neg h2, if_neg (fun z => h2 z.2)]
  · rw [pm_up_ne h, if_neg (fun z => h z.1)]
theorem tcr {I : pm_II} {a f w : Int32} {c : Nat} (h : c ≠ 17) : T3 I a f w c = I c := by
  unfold T3; rw [nb_f h]; rfl
theorem mcr {I : pm_II} {a w : Int32} {c : Nat} (h : c ≠ 120) : M2 I a w c = I c := by
  unfold M2; rw [nb_f h]; rfl
theorem mck {I : pm_II} {a w : Int32} {k : Nat} (h4 : k ≠ 4) (h5 : k ≠ 5) : M2 I a w 120 k = I 120 k := by
  show (if k = 4 then a else if k = 5 then w else I 120 k) = _
  rw [if_neg h4, if_neg h5]
theorem tkr {I : pm_II} {n c : Nat} (h : c ≠ 120) (h2 : c ≠ 122) : TK I n c = I c := by
  unfold TK; rw [nb_f h, nb_f h2]; rfl
theorem tkk {I : pm_II} {n k : Nat} (h2 : k ≠ 2) (h3 : k ≠ 3) : TK I n 120 k = I 120 k := by
  show (if k = 2 then 0 else if k = 3 then nI n else I 120 k) = _
  rw [if_neg h2, if_neg h3]
theorem tc_r {I : pm_II} {p f : Nat} {e : Option Nat} {c : Nat} (h : c ≠ 17) : tc I p f e c = I c := tcr h
theorem mc_r {I : pm_II} {p : Nat} {e : Option Nat} {c : Nat} (h : c ≠ 120) : mc I p e c = I c := mcr h
theorem mc_k {I : pm_II} {p : Nat} {e : Option Nat} {k : Nat} (h4 : k ≠ 4) (h5 : k ≠ 5) : mc I p e 120 k = I 120 k := mck h4 h5
section Rd
variable {u : Nat} {I : pm_II} {J : pm_JJ} {b : Nat → Int32} {n p f x : Nat} {e : Option Nat}
theorem t_nnS {lo hi : Int32} (hu : 10 ≤ u) (ho : Ok n p (some x)) (hb : Tb b n I) : F_Ta_readNextNumber u lo hi (tc I p f (some x)) J = some (nI 0, tc I p p (some x), J) := by
  have h := nn_some (b := b) (n := n) (p := p) (x := x) (lo := lo) (hi := hi)
  rw [t_nn hu ho hb, h.1, h.2.1, h.2.2]
  unfold nnF
  rw [ex_some.1]
theorem t_exS {c : Int32} (ho : Ok n p (some x)) (hb : Tb b n I) : F_Ta_expect u c (tc I p f (some x)) J = some ((), tc I p f (some x), J) := by
  rw [t_expect ho hb, ex_some.1, ex_some.2]
theorem t_fiS (ho : Ok n p (some x)) (hb : Tb b n I) : F_Ta_finish u (tc I p f (some x)) J = some ((), tc I p f (some x), J) := by
  rw [t_finish ho hb, fi_some]
theorem t_irS (ho : Ok n p (some x)) (hb : Tb b n I) : F_Ta_isRight u (tc I p f (some x)) J = some (0, tc I p f (some x), J) := by
  rw [t_isRight ho hb]; simp [b2i]
theorem t_ir0 (ho : Ok n p none) (hb : Tb b n I) : F_Ta_isRight u (tc I p f none) J = some (1, tc I p f none, J) := by
  rw [t_isRight ho hb]; simp [b2i]
theorem t_hmS (ho : Ok n p (some x)) (hb : Tb b n I) : F_Ta_hasMore u (tc I p f (some x)) J = some (0, tc I p f (some x), J) := by
  rw [t_hasMore ho hb]; simp [b2i]
theorem t_hm1 (h : p < n) (hb : Tb b n I) : F_Ta_hasMore u (tc I p f none) J = some (1, tc I p f none, J) := by
  rw [t_hasMore ⟨by omega, fun x h => by cases h⟩ hb]; simp [b2i, h]
theorem t_hm0 (h : p = n) (hb : Tb b n I) : F_Ta_hasMore u (tc I p f none) J = some (0, tc I p f none, J) := by
  rw [t_hasMore ⟨by omega, fun x h => by cases h⟩ hb]; simp [b2i, h]
theorem t_fi0 (h : p = n) (hb : Tb b n I) : F_Ta_finish u (tc I p f none) J = some ((), tc I p f none, J) := by
  rw [t_finish ⟨by omega, fun x h => by cases h⟩ hb]
  unfold q_fi
  rw [if_neg (by omega)]
theorem t_fi1 (h : p < n) (hb : Tb b n I) : F_Ta_finish u (tc I p f none) J = some ((), tc I p f (some p), J) := by
  rw [t_finish ⟨by omega, fun x h => by cases h⟩ hb]
  unfold q_fi
  rw [if_pos h]; rfl
theorem m_badS (ho : Om n p (some x)) (hb : Mb b n I) : F_Mo_bad u (mc I p (some x)) J = some (1, mc I p (some x), J) := by
  rw [m_bad ho hb]; simp [b2i]
theorem m_bad0 (ho : Om n p none) (hb : Mb b n I) : F_Mo_bad u (mc I p none) J = some (0, mc I p none, J) := by
  rw [m_bad ho hb]; simp [b2i]
theorem m_nnS {lo hi : Int32} (hu : 10 ≤ u) (ho : Om n p (some x)) (hb : Mb b n I) : F_Mo_behind u lo hi (mc I p (some x)) J = some (nI 0, mc I p (some x), J) := by
  have h := nn_some (b := b) (n := n) (p := p) (x := x) (lo := lo) (hi := hi)
  rw [m_nn hu ho hb, h.1, h.2.1, h.2.2]
theorem m_needS {c : Int32} (hc : ¬ c = -1) (ho : Om n p (some x)) (hb : Mb b n I) : F_Mo_need u c (mc I p (some x)) J = some ((), mc I p (some x), J) := by
  rw [m_need hc ho hb, ex_some.1, ex_some.2]
theorem m_toldS {lo hi : Int32} (hu : 10 ≤ u) (ho : Om n p (some x)) (hb : Mb b n I) : F_Mo_told u lo hi (mc I p (some x)) J = some (nI 0, mc I p (some x), J) := by
  rw [m_told hu ho hb]; rfl
theorem m_failS {y : Nat} (ho : Om n p (some x)) (hb : Mb b n I) : F_Mo_fail u (nI y) (mc I p (some x)) J = some ((), mc I p (some x), J) := by
  rw [m_fail ho hb]; rfl
theorem m_fail0 {y : Nat} (ho : Om n p none) (hb : Mb b n I) : F_Mo_fail u (nI y) (mc I p none) J = some ((), mc I p (some y), J) := by
  rw [m_fail ho hb]; rfl
theorem Ok.s (h : Ok n p none) {y : Nat} (hy : y ≤ n) : Ok n p (some y) := ⟨h.1, fun z hz => by cases hz; exact hy⟩
theorem Om.s (h : Om n p e) {y : Nat} (hy : y ≤ n) : Om n p (some y) := ⟨h.1, (fun z => by cases z), fun z hz => by cases hz; exact hy⟩
theorem Ok_0 (h : p ≤ n) : Ok n p none := ⟨h, fun z hz => by cases hz⟩
/-- one word -/
theorem q_wd_ll {t : List Int32} (hn : n ≤ 1600) (h0 : 0 < t.length) (hl : 97 ≤ t.getD 0 0 ∧ t.getD 0 0 ≤ 122) : q_wi b p (q_ll b n p none 1600 true) t = q_wd b n p t := q_wi_wl hn h0 hl
theorem q_wi_l {l : Nat} {t : List Int32} (h : q_wi b p l t = true) : l = t.length := by
  unfold q_wi at h
  exact (of_decide_eq_true h).1
theorem t_kw1 {a : Nat} (hu : 1602 ≤ u) (ha : (pm_txt a).length < 10) (ha0 : 0 < (pm_txt a).length) (hl : 97 ≤ (pm_txt a).getD 0 0 ∧ (pm_txt a).getD 0 0 ≤ 122) (ho : Ok n p none) (hb : Tb b n I) (h : q_wd b n p (pm_txt a) = true) : F_Ta_readKeyword u a (tc I p f none) J = some ((), tc I (p + (pm_txt a).length) p none, J) := by
  rw [t_keyword hu ha ha0 ho hb]
  have h2 := q_wd_ll (b := b) (n := n) (p := p) hb.2.2 ha0 hl
  rw [h] at h2
  have h3 := q_wi_l h2
  have : q_kwE b n p none (pm_txt a) = none := by unfold q_kwE; rw [h2]; rfl
  rw [this, h3]
theorem t_kw0 {a : Nat} (hu : 1602 ≤ u) (ha : (pm_txt a).length < 10) (ha0 : 0 < (pm_txt a).length) (hl : 97 ≤ (pm_txt a).getD 0 0 ∧ (pm_txt a).getD 0 0 ≤ 122) (ho : Ok n p none) (hb : Tb b n I) (h : q_wd b n p (pm_txt a) = false) : ∃ p', p' ≤ n ∧ F_Ta_readKeyword u a (tc I p f none) J = some ((), tc I p' p (some p), J) := by
  rw [t_keyword hu ha ha0 ho hb]
  have h2 := q_wd_ll (b := b) (n := n) (p := p) hb.2.2 ha0 hl
  rw [h] at h2
  have : q_kwE b n p none (pm_txt a) = some p := by unfold q_kwE; dsimp only; rw [h2]; rfl
  rw [this]
  have := q_ll_le (b := b) (n := n) (p := p) (e := none) (most := 1600) (od := true)
  exact ⟨p + q_ll b n p none 1600 true, by have := ho.1; omega, rfl⟩
theorem t_kwS {a : Nat} (hu : 1602 ≤ u) (ha : (pm_txt a).length < 10) (ha0 : 0 < (pm_txt a).length) (ho : Ok n p (some x)) (hb : Tb b n I) : F_Ta_readKeyword u a (tc I p f (some x)) J = some ((), tc I p p (some x), J) := by
  rw [t_keyword hu ha ha0 ho hb]
  rfl
theorem t_eiS {a1 a2 : Nat} (hu : 1602 ≤ u) (ha : (pm_txt a1).length < 10) (ha0 : 0 < (pm_txt a1).length) (hc : (pm_txt a2).length < 10) (hc0 : 0 < (pm_txt a2).length) (ho : Ok n p (some x)) (hb : Tb b n I) : F_Ta_readEither u a1 a2 (tc I p f (some x)) J = some (0, tc I p p (some x), J) := by
  rw [t_either hu ha ha0 hc hc0 ho hb]
  have : q_wi b p (q_ll b n p (some x) 1600 true) (pm_txt a2) = false := by
    have : q_ll b n p (some x) 1600 true = 0 := rfl
    rw [this]
    unfold q_wi
    rw [decide_eq_false]; intro h; omega
  rw [this]
  rfl
/-- one of two words: 0 the first, 1 the second -/
theorem t_ei {a1 a2 : Nat} (hu : 1602 ≤ u) (ha : (pm_txt a1).length < 10) (ha0 : 0 < (pm_txt a1).length) (hla : 97 ≤ (pm_txt a1).getD 0 0 ∧ (pm_txt a1).getD 0 0 ≤ 122) (hc : (pm_txt a2).length < 10) (hc0 : 0 < (pm_txt a2).length) (hlc : 97 ≤ (pm_txt a2).getD 0 0 ∧ (pm_txt a2).getD 0 0 ≤ 122) (ho : Ok n p none) (hb : Tb b n I) : (q_wd b n p (pm_txt a2) = true → F_Ta_readEither u a1 a2 (tc I p f none) J = some (1, tc I (p + (pm_txt a2).length) p none, J)) ∧ (q_wd b n p (pm_txt a2) = false → q_wd b n p (pm_txt a1) = true → F_Ta_readEither u a1 a2 (tc I p f none) J = some (0, tc I (p + (pm_txt a1).length) p none, J)) ∧ (q_wd b n p (pm_txt a2) = false → q_wd b n p (pm_txt a1) = false → ∃ p', p' ≤ n ∧ F_Ta_readEither u a1 a2 (tc I p f none) J = some (0, tc I p' p (some p), J)) := by
  rw [t_either hu ha ha0 hc hc0 ho hb]
  have h1 := q_wd_ll (b := b) (n := n) (p := p) hb.2.2 ha0 hla
  have h2 := q_wd_ll (b := b) (n := n) (p := p) hb.2.2 hc0 hlc
  have hq : q_eiE b n p none (pm_txt a1) (pm_txt a2) = if q_wd b n p (pm_txt a2) = true ∨ q_wd b n p (pm_txt a1) = true then none else some p := by unfold q_eiE; rw [h1, h2]
  rw [hq]
  refine ⟨fun g => ?_, fun g g2 => ?_, fun g g2 => ?_⟩
  · rw [g, if_pos (Or.inl rfl), h2, g]
    rw [g] at h2
    rw [q_wi_l h2]; rfl
  · rw [g2, if_pos (Or.inr rfl), h2, g]
    rw [g2] at h1
    rw [q_wi_l h1]; rfl
  · rw [g, g2, if_neg (by decide), h2, g]
    have := q_ll_le (b := b) (n := n) (p := p) (e := none) (most := 1600) (od := true)
    exact ⟨p + q_ll b n p none 1600 true, by have := ho.1; omega, rfl⟩
theorem m_w1 {a : Nat} (hu : 1602 ≤ u) (hp : p ≤ n) (ha : (pm_txt a).length < 10) (hb : Mb b n I) (h : q_wd b n p (pm_txt a) = true) : F_Mo_isWord u a (mc I p e) J = some (1, mc I (p + (pm_txt a).length) e, J) := by
  rw [m_isWord hu hp ha hb, h]; rfl
theorem m_w0 {a : Nat} (hu : 1602 ≤ u) (hp : p ≤ n) (ha : (pm_txt a).length < 10) (hb : Mb b n I) (h : q_wd b n p (pm_txt a) = false) : F_Mo_isWord u a (mc I p e) J = some (0, mc I p e, J) := by
  rw [m_isWord hu hp ha hb, h]; rfl
theorem wd_ne {t1 t2 : List Int32} (h1 : q_wd b n p t1 = true) (h2 : q_wd b n p t2 = true) (hl : 0 < t1.length) : t1.getD 0 0 = t2.getD 0 0 ∧ t1.length = t2.length := by
  unfold q_wd q_wi at h1 h2
  have a1 := of_decide_eq_true h1
  have a2 := of_decide_eq_true h2
  have hll : t1.length = t2.length := by rw [← a1.1, a2.1]
  refine ⟨?_, hll⟩
  rw [← a1.2 0 hl, ← a2.2 0 (by omega)]
end Rd
