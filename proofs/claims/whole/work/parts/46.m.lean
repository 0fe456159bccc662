/-! ===== what is written where; the ends of a text; gather ===== -/
def On (S : Nat → Nat → Prop) {α : Type} (I I2 : Nat → Nat → α) : Prop := ∀ c k, ¬ S c k → I2 c k = I c k
theorem On.refl {S : Nat → Nat → Prop} {α : Type} (I : Nat → Nat → α) : On S I I := fun _ _ _ => rfl
theorem On.trans {S : Nat → Nat → Prop} {α : Type} {I I1 I2 : Nat → Nat → α} (h : On S I I1) (h2 : On S I1 I2) : On S I I2 := fun c k a => (h2 c k a).trans (h c k a)
theorem On.mono {S T : Nat → Nat → Prop} {α : Type} {I I1 : Nat → Nat → α} (h : On S I I1) (st : ∀ c k, S c k → T c k) : On T I I1 := fun c k a => h c k (fun z => a (st c k z))
theorem On.up {S : Nat → Nat → Prop} {α : Type} {I I1 : Nat → Nat → α} (h : On S I I1) {c k : Nat} {v : α} (hw : S c k) : On S I (pm_up I1 c k v) := by
  intro d j a
  by_cases e : d = c
  · subst e
    rw [pm_up_eq]
    by_cases e2 : j = k
    · subst e2; exact absurd hw a
    · show (if j = k then v else I1 d j) = _
      rw [if_neg e2]; exact h d j a
  · rw [pm_up_ne e]; exact h d j a
theorem On.fr {S : Nat → Nat → Prop} {s : Nat} {α : Type} {I I1 : Nat → Nat → α} (h : On S I I1) (st : ∀ c k, S c k → own c k = 0 ∨ own c k = s) : Fr s I I1 := fun c k a b => h c k (fun z => (st c k z).elim a b)
def ansM {τ : Type} (e : Option Nat) (X : τ) (Y : Nat → τ) : τ := match e with
  | none => X
  | some y => Y y
section Gather
variable {u : Nat} {I : pm_II} {J : pm_JJ} {b : Nat → Int32} {n p f : Nat} {e : Option Nat}
theorem m_fi {τ : Type} {K : pm_II → pm_JJ → Option τ} (ho : Om n p e) (hb : Mb b n I) : (bd (F_Mo_bad u (mc I p e) J) fun r I2 J2 => if ¬ r = 0 then K I2 J2 else if (I2 120 3) ≤ (I2 120 4) then K I2 J2 else bd (F_Mo_fail u (I2 120 4) I2 J2) fun _ I3 J3 => K I3 J3) = K (mc I p (q_fi n p e)) J := by
  rw [m_bad ho hb, bd_s]
  cases e with
  | some y => rw [if_pos (by simp [b2i]), fi_some]
  | none =>
    rw [if_neg (by simp [b2i])]
    have h1 : (mc I p none) 120 3 = nI n := hb.2.1
    have h2 : (mc I p none) 120 4 = nI p := rfl
    have hp := ho.2.1 rfl
    have hn := hb.2.2
    rw [h1, h2]
    unfold q_fi
    by_cases c : p < n
    · rw [if_neg (by rw [nI_leI (by omega) (by omega)]; omega), m_fail ho hb, bd_s, if_pos c]
    · rw [if_pos (by rw [nI_leI (by omega) (by omega)]; omega), if_neg c]
theorem m_ans {X : pm_II → pm_JJ → Option (Int32 × pm_II × pm_JJ)} (ho : Om n p e) (hb : Mb b n I) : (bd (F_Mo_bad u (mc I p e) J) fun r I2 J2 => if r = 0 then X I2 J2 else some (((-1000) : Int32) - (I2 120 5), I2, J2)) = ansM e (X (mc I p none) J) (fun y => some (-1000 - nI y, mc I p (some y), J)) := by
  rw [m_bad ho hb, bd_s]
  cases e with
  | some y => rw [if_neg (by simp [b2i])]; rfl
  | none => rw [if_pos (by simp [b2i])]; rfl
def gE (b : Nat → Int32) (n p : Nat) (e : Option Nat) : Option Nat := q_fi n (q_exP b n p e 10) (q_exE b n p e 10)
def gA (s k o : Nat) : Nat := if o = 0 ∧ k < s then k + 1 else o
def gO (s k o v : Nat) : Nat := if o = 0 ∧ (s < k + 1 ∨ ¬ v = k + 1) then k + 1 else o
theorem g_c69 {s k o : Nat} (hs : s ≤ 8) (hk : k ≤ 20) (hoo : o ≤ 21) (ho : Ok n p e) (hb : Tb b n I) : F_Ph_gather_69 u (nI s) (nI k) (nI o) (tc I p f e) J = some (ansW (gE b n p e) (nI (gA s k o)), tc (pm_up I 17 1 0) (q_exP b n p e 10) f (gE b n p e), J) := by
  unfold F_Ph_gather_69 F_Ph_gather_98 gA
  rw [t_expect ho hb, bd_s, t_finish (Ok_ex ho) hb, bd_s]
  simp (disch := omega) only [nI_1, nI_io1, nI_add, nI_leI, nI_ltI, nI_eq, i0_iff, t_close2 (Ok_fi (Ok_ex ho)) hb, bd_s]
  unfold gE
  by_cases c : o = 0
  · by_cases d : s ≤ k
    · rw [if_neg (by omega), if_pos d, if_neg (by omega)]
    · rw [if_neg (by omega), if_neg d, if_pos (by omega)]
  · rw [if_pos c, if_neg (by omega)]
theorem g_m96 {s k o : Nat} (hs : s ≤ 8) (hk : k ≤ 20) (hoo : o ≤ 21) (h20 : I 120 20 = nI s) (ho : Om n p e) (hb : Mb b n I) : F_Mo_gather_96 u (nI k) (nI o) (mc I p e) J = some (ansW (gE b n p e) (nI (gA s k o)), mc I (q_exP b n p e 10) (gE b n p e), J) := by
  unfold F_Mo_gather_96
  rw [m_need (by decide) ho hb, bd_s, m_fi (Om_ex ho) hb]
  unfold F_Mo_gather_128
  have ho3 : Om n (q_exP b n p e 10) (gE b n p e) := by
    have := Om_ex (b := b) (c := 10) ho
    refine ⟨this.1, fun h => ?_, fun x hx => ?_⟩
    · unfold gE q_fi at h
      split at h
      · rename_i c; omega
      · exact this.2.1 h
    · unfold gE q_fi at hx
      split at hx
      · cases hh : q_exE b n p e 10 with
        | none => rw [hh] at hx; cases hx; omega
        | some y => rw [hh] at hx; cases hx; exact this.2.2 _ hh
      · exact this.2.2 _ hx
  rw [show q_fi n (q_exP b n p e 10) (q_exE b n p e 10) = gE b n p e from rfl, m_ans ho3 hb]
  unfold gA
  cases hh : gE b n p e with
  | some y => rfl
  | none =>
    have h : (mc I (q_exP b n p e 10) none) 120 20 = nI s := h20
    simp (disch := omega) only [nI_1, nI_io1, nI_add, nI_leI, nI_ltI, nI_eq, i0_iff, h]
    unfold ansW ansM
    dsimp only
    by_cases c : o = 0
    · by_cases d : s ≤ k
      · rw [if_neg (by omega), if_pos d, if_neg (by omega)]
      · rw [if_neg (by omega), if_neg d, if_pos (by omega)]
    · rw [if_pos c, if_neg (by omega)]
theorem g_num {s k o N : Nat} (hu : 10 ≤ u) (hs : s ≤ 8) (hk : k < 20) (hoo : o ≤ 21) (ho : Ok n p e) (hb : Tb b n I) : F_Ph_gather_19 u (N + 1) (nI s) (nI k) (nI o) (tc I p f e) J = F_Ph_gather_51 u (F_Ph_gather_19 u N) (nI s) (nI (k + 1)) (nI (gO s k o (q_nmV b n p e))) (tc I (p + q_dd b n p e) p (q_nmE b n p e 1 8)) J := by
  rw [F_Ph_gather_19, t_num hu ho hb, bd_s]
  have := q_nmV_lt (b := b) (n := n) (p := p) (e := e)
  simp (disch := omega) only [nI_1, nI_io1, nI_add, nI_leI, nI_ltI, nI_eq, i0_iff]
  unfold gO
  by_cases c : o = 0
  · by_cases d : s < k + 1
    · rw [if_neg (by omega), if_pos d, if_pos (by omega)]
    · by_cases g : q_nmV b n p e = k + 1
      · rw [if_neg (by omega), if_neg d, if_pos g, if_neg (by omega)]
      · rw [if_neg (by omega), if_neg d, if_neg g, if_pos (by omega)]
  · rw [if_pos c, if_neg (by omega)]
theorem g_told {s k o y : Nat} {K : Int32 → Int32 → pm_II → pm_JJ → Option (Int32 × pm_II × pm_JJ)} (hu : 10 ≤ u) (hs : s ≤ 8) (hk : k < 20) (hoo : o ≤ 21) (h20 : I 120 20 = nI s) (ho : Om n (p + y) e) (hb : Mb b n I) : F_Mo_gather_59 u K (nI k) (nI o) (nI p) (nI y) (mc I p e) J = K (nI (k + 1)) (nI (gO s k o (q_nmV b n (p + y) e))) (mc I (p + y + q_dd b n (p + y) e) (q_nmE b n (p + y) e 1 8)) J := by
  unfold F_Mo_gather_59
  rw [nI_add, M2_a, m_told hu ho hb, bd_s]
  have h : (mc I (p + y + q_dd b n (p + y) e) (q_nmE b n (p + y) e 1 8)) 120 20 = nI s := h20
  have := q_nmV_lt (b := b) (n := n) (p := p + y) (e := e)
  simp (disch := omega) only [nI_1, nI_io1, nI_add, nI_leI, nI_ltI, nI_eq, i0_iff, h]
  unfold gO
  by_cases c : o = 0
  · by_cases d : s < k + 1
    · rw [if_neg (by omega), if_pos d, if_pos (by omega)]
    · by_cases g : q_nmV b n (p + y) e = k + 1
      · rw [if_neg (by omega), if_neg d, if_pos g, if_neg (by omega)]
      · rw [if_neg (by omega), if_neg d, if_neg g, if_pos (by omega)]
  · rw [if_pos c, if_neg (by omega)]
theorem gO_le {s k o v : Nat} (h : o ≤ k) : gO s k o v ≤ k + 1 := by
  unfold gO; split <;> omega
theorem gE_some {x : Nat} : gE b n p (some x) = some x := by
  unfold gE; rw [ex_some.1, ex_some.2, fi_some]
theorem g_loop {s : Nat} (hu : 10 ≤ u) (hs : s ≤ 8) (hb : Tb b n I) : ∀ (m k o p f : Nat) (e : Option Nat) (N N2 : Nat), k + m = 20 → 1 ≤ k → o ≤ k → m < N → m + 2 ≤ N2 → Ok n p e → ∃ v pp ff ee, F_Ph_gather_51 u (F_Ph_gather_19 u N) (nI s) (nI k) (nI o) (tc I p f e) J = some (v, tc (pm_up I 17 1 0) pp ff ee, J) ∧ ∀ (M : pm_II) (p2 : Nat), Mb b n M → M 120 20 = nI s → Om n p2 e → (e = none → p = p2) → ∃ p3, F_Mo_gather_8 u N2 (nI k) (nI o) (mc M p2 e) J = some (v, mc M p3 ee, J) := by
  intro m
  induction m with
  | zero =>
    intro k o p f e N N2 hk h1 hok hN hN2 ho
    obtain ⟨N2, rfl⟩ : ∃ z, N2 = z + 2 := ⟨N2 - 2, by omega⟩
    have c51 : F_Ph_gather_51 u (F_Ph_gather_19 u N) (nI s) (nI k) (nI o) (tc I p f e) J = F_Ph_gather_69 u (nI s) (nI k) (nI o) (tc I p f e) J := by
      unfold F_Ph_gather_51
      rw [if_pos (by rw [nl_20, nI_leI (by omega) (by omega)]; omega)]
    rw [c51, g_c69 hs (by omega) (by omega) ho hb]
    refine ⟨_, _, _, _, rfl, fun M p2 hm h20 ho2 hp => ?_⟩
    rw [F_Mo_gather_8, m_bad ho2 hm, bd_s]
    cases e with
    | some x =>
      rw [if_pos (by simp [b2i]), g_m96 hs (by omega) (by omega) h20 ho2 hm, gE_some, gE_some]
      exact ⟨_, rfl⟩
    | none =>
      have hpp := hp rfl
      subst hpp
      rw [if_neg (by simp [b2i]), if_neg (by rw [i0_iff (by omega)]; omega), m_here ho2 hm, bd_s]
      by_cases c : h_re b n p = 32
      · rw [if_neg (by simpa using c)]
        unfold F_Mo_gather_28
        have e20 : nI k = 20 := by rw [nl_20]; congr 1
        rw [if_neg (by simpa using e20)]
        have h4 : (mc M p none) 120 4 = nI p := rfl
        rw [h4, m_fail ho2 hm, bd_s, F_Mo_gather_8]
        have ho4 : Om n p (some p) := ⟨ho2.1, (fun h => by cases h), fun x hx => by cases hx; exact ho.1⟩
        have hq : q_bl none p = some p := rfl
        rw [hq, m_bad ho4 hm, bd_s, if_pos (by simp [b2i]), g_m96 hs (by omega) (by omega) h20 ho4 hm, gE_some]
        have : gE b n p none = some p := by
          unfold h_re at c
          have tk : q_tk b n p none 10 = false := by
            unfold q_tk
            by_cases d : p < n
            · rw [if_pos d] at c; rw [c]; simp
            · simp [d]
          unfold gE q_exE q_exP
          rw [tk]
          simp only [if_neg (show ¬ false = true by decide)]
          rw [hq, fi_some]
        rw [this]
        exact ⟨_, rfl⟩
      · rw [if_pos c, g_m96 hs (by omega) (by omega) h20 ho2 hm]
        exact ⟨_, rfl⟩
  | succ m ih =>
    intro k o p f e N N2 hk h1 hok hN hN2 ho
    obtain ⟨N2, rfl⟩ : ∃ z, N2 = z + 1 := ⟨N2 - 1, by omega⟩
    obtain ⟨N, rfl⟩ : ∃ z, N = z + 1 := ⟨N - 1, by omega⟩
    unfold F_Ph_gather_51
    rw [if_neg (by rw [nl_20, nI_leI (by omega) (by omega)]; omega), t_takes ho hb, bd_s]
    cases e with
    | some x =>
      have tk : q_tk b n p (some x) 32 = false := by simp [q_tk]
      rw [tk, if_neg (by simp [b2i]), if_neg (by decide), g_c69 hs (by omega) (by omega) ho hb]
      refine ⟨_, _, _, _, rfl, fun M p2 hm h20 ho2 hp => ?_⟩
      rw [F_Mo_gather_8, m_bad ho2 hm, bd_s]
      rw [if_pos (by simp [b2i]), g_m96 hs (by omega) (by omega) h20 ho2 hm, gE_some, gE_some]
      exact ⟨_, rfl⟩
    | none =>
      by_cases c : p < n ∧ b p = 32
      · have tk : q_tk b n p none 32 = true := by simp [q_tk, c]
        have hh : h_re b n p = 32 := by unfold h_re; rw [if_pos c.1]; exact c.2
        rw [tk, if_pos (by decide), if_pos rfl]
        have ho5 : Ok n (p + 1) none := ⟨c.1, fun x h => by cases h⟩
        rw [g_num hu hs (by omega) (by omega) ho5 hb]
        obtain ⟨v, pp, ff, ee, q1, q2⟩ := ih (k + 1) (gO s k o (q_nmV b n (p + 1) none)) (p + 1 + q_dd b n (p + 1) none) (p + 1) (q_nmE b n (p + 1) none 1 8) N N2 (by omega) (by omega) (gO_le hok) (by omega) (by omega) (Ok_nm ho5)
        refine ⟨_, _, _, _, q1, fun M p2 hm h20 ho2 hp => ?_⟩
        have hpp := hp rfl
        subst hpp
        rw [F_Mo_gather_8, m_bad ho2 hm, bd_s]
        rw [if_neg (show ¬ ¬ b2i (decide ((none : Option Nat) ≠ none)) = 0 by simp [b2i]), if_neg (by rw [i0_iff (by omega)]; omega), m_here ho2 hm, bd_s]
        rw [if_neg (by simpa using hh)]
        unfold F_Mo_gather_28
        rw [if_pos (by rw [nl_20, nI_eq (by omega) (by omega)]; omega), if_pos (by rw [i0_iff (by omega)]; omega)]
        have h4 : (mc M p none) 120 4 = nI p := rfl
        have ho6 : Om n (p + 1) none := ho5.m
        rw [h4, nl_1, g_told hu hs (by omega) (by omega) h20 ho6 hm]
        exact q2 M _ hm h20 (Om_nm ho6) (fun _ => rfl)
      · have tk : q_tk b n p none 32 = false := by
          unfold q_tk; rw [decide_eq_false]; intro h; exact c h.2
        have hh : ¬ h_re b n p = 32 := by
          unfold h_re
          by_cases d : p < n
          · rw [if_pos d]; exact fun h => c ⟨d, h⟩
          · rw [if_neg d]; decide
        rw [tk, if_neg (by decide), if_neg (by decide), g_c69 hs (by omega) (by omega) ho hb]
        refine ⟨_, _, _, _, rfl, fun M p2 hm h20 ho2 hp => ?_⟩
        have hpp := hp rfl
        subst hpp
        rw [F_Mo_gather_8, m_bad ho2 hm, bd_s]
        rw [if_neg (show ¬ ¬ b2i (decide ((none : Option Nat) ≠ none)) = 0 by simp [b2i]), if_neg (by rw [i0_iff (by omega)]; omega), m_here ho2 hm, bd_s]
        rw [if_pos hh, g_m96 hs (by omega) (by omega) h20 ho2 hm]
        exact ⟨_, rfl⟩
end Gather
theorem st_gather {u : Nat} {I : pm_II} {J : pm_JJ} {s : Nat} (hu : 2000 ≤ u) (ht : Ptape I) (hs : s ≤ 8) (h11 : I 29 11 = nI s) (h20 : I 120 20 = nI s) : ∃ v I1 I2, F_Ph_gather u I J = some (v, I1, J) ∧ F_Mo_gather u I1 J = some (v, I2, J) ∧ Ptape I2 ∧ Fr 0 I I2 := by
  obtain ⟨b, n, hb, h2, h121, hbb⟩ := ht.bn
  have hn := hb.2.2
  unfold F_Ph_gather F_Mo_gather F_Fo_sheets
  rw [t_open, bd_s]
  have e11 : (tc I 0 0 none) 29 11 = nI s := h11
  rw [e11, bd_s]
  obtain ⟨U, rfl⟩ : ∃ z, u = z + 30 := ⟨u - 30, by omega⟩
  have ho : Ok n 0 none := ⟨by omega, fun x h => by cases h⟩
  have n0 : (0 : Int32) = nI 0 := rfl
  rw [n0, g_num (N := U + 29) (by omega) hs (by omega) (by omega) ho hb]
  obtain ⟨v, pp, ff, ee, q1, q2⟩ := g_loop (u := U + 30) (J := J) (by omega) hs hb 19 1 (gO s 0 0 (q_nmV b n 0 none)) (0 + q_dd b n 0 none) 0 (q_nmE b n 0 none 1 8) (U + 29) (U + 29) (by omega) (by omega) (gO_le (by omega)) (by omega) (by omega) (Ok_nm ho)
  have hm : Mb b n (TK (tc (pm_up I 17 1 0) pp ff ee) n) := TK_Mb hn (fun j hj => h121 j hj)
  obtain ⟨p3, q2⟩ := q2 _ (0 + q_dd b n 0 none) hm h20 (Om_nm ho.m) (fun _ => rfl)
  refine ⟨v, _, mc (TK (tc (pm_up I 17 1 0) pp ff ee) n) p3 ee, q1, ?_, Ptape.zero rfl rfl, Fr_M2 (Fr_TK (Fr_T3 (Fr.up (Fr.refl _ _) (Or.inl rfl))))⟩
  have k2 : (tc (pm_up I 17 1 0) pp ff ee) 120 2 = nI n := h2
  rw [m_take (by omega) hn k2, bd_s, F_Mo_gather_8, m_bad ho.m hm, bd_s, if_neg (by simp [b2i]), if_pos (show nI 0 = 0 from rfl)]
  unfold F_Mo_gather_28
  rw [if_pos (by decide), if_neg (by decide)]
  have h4 : (mc (TK (tc (pm_up I 17 1 0) pp ff ee) n) 0 none) 120 4 = nI 0 := rfl
  rw [h4]
  have h20' : (TK (tc (pm_up I 17 1 0) pp ff ee) n) 120 20 = nI s := h20
  exact (g_told (b := b) (u := U + 30) (J := J) (k := 0) (o := 0) (p := 0) (y := 0) (s := s) (by omega) hs (by omega) (by omega) h20' ho.m hm).trans q2
