/-! ===== draw ===== -/
section Draw
variable {u : Nat} {I M : pm_II} {J : pm_JJ} {b : Nat → Int32} {n p f : Nat} {e : Option Nat}
theorem j_abs {x y : Nat} (hx : x < 1000) (hy : y < 1000) : F_Jm_abs_I u (nI x - nI y) I J = some (nI (max x y - min x y), I, J) := by
  unfold F_Jm_abs_I
  have h1 : (nI x - nI y).toInt = (x : Int) - y := pk_sub_toInt (by omega) (by omega)
  by_cases c : y ≤ x
  · rw [pk_sub c, if_pos (Int32.not_lt.mp (nI_pos (by omega)))]
    congr 3
    omega
  · have : ¬ (0 : Int32) ≤ nI x - nI y := by
      rw [Int32.le_iff_toInt_le, h1]
      show ¬ (0 : Int) ≤ _
      omega
    rw [if_neg this, Int32.neg_sub, pk_sub (by omega)]
    congr 3
    omega
def box6 (b : Nat → Int32) (n p4 : Nat) (e4 : Option Nat) : Nat × Option Nat := (q_exP b n (nnP b n p4 e4) (nnE b n p4 e4 0 16) 10, q_exE b n (nnP b n p4 e4) (nnE b n p4 e4 0 16) 10)
theorem nnV_le {lo hi : Nat} (hl : lo < 2 ^ 31) (hh : hi < 2 ^ 31) (h : nnE b n p e (nI lo) (nI hi) = none) : lo ≤ nnV b n p e ∧ nnV b n p e ≤ hi := by
  have h1 := (nnE_ok h).2
  have h2 := nnV_lt (b := b) (n := n) (p := p) (e := e)
  rw [nI_leI (by omega) (by omega), nI_leI (by omega) (by omega)] at h1
  exact h1
theorem nnE_n {lo hi : Int32} (h : nnE b n p e lo hi = none) : e = none := (nnE_ok h).1
/-- what a line of the text gives: a box (its words read) -/
theorem dw_box (hu : 2000 ≤ u) (hb : Tb b n I) (hp : p ≤ n) :
    (∃ g x p' f', x ≤ n ∧ p' ≤ n ∧ bd (F_Pl_readBox u (tc I p f none) J) (fun _ I22 J22 => F_Pl_readLine_25 u I22 J22) = some ((), tc (sr I 38 g) p' f' (some x), J) ∧ ∀ M K (pg k : Int32), Mb b n M → ∃ p2, p2 ≤ n + 1 ∧ F_Mo_draw_111 u K pg k 1 (mc M p none) J = K pg k (mc M p2 (some x)) J) ∨
    (∃ g p' f', p' ≤ n ∧ bd (F_Pl_readBox u (tc I p f none) J) (fun _ I22 J22 => F_Pl_readLine_25 u I22 J22) = some ((), tc (sr I 38 g) p' f' none, J) ∧ ∀ M K (pg k : Int32), Mb b n M → (∀ i, i < 64 → I 38 i = M 137 i) → ∃ g', (∀ i, i < 64 → g i = g' i) ∧ F_Mo_draw_111 u K pg k 1 (mc M p none) J = K pg (k + Int32.ofInt 1) (mc (sr M 137 g') p' none) J) := by
  have ho : Ok n p none := Ok_0 hp
  have o1 : Ok n (nnP b n p none) (nnE b n p none 0 7) := Ok_nn ho
  generalize h1 : nnE b n p none 0 7 = e1 at o1
  generalize hp1 : nnP b n p none = p1 at o1
  have o2 : Ok n (nnP b n p1 e1) (nnE b n p1 e1 0 7) := Ok_nn o1
  generalize h2 : nnE b n p1 e1 0 7 = e2 at o2
  generalize hp2 : nnP b n p1 e1 = p2 at o2
  have o3 : Ok n (nnP b n p2 e2) (nnE b n p2 e2 1 8) := Ok_nn o2
  generalize h3 : nnE b n p2 e2 1 8 = e3 at o3
  generalize hp3 : nnP b n p2 e2 = p3 at o3
  have o4 : Ok n (nnP b n p3 e3) (nnE b n p3 e3 1 8) := Ok_nn o3
  generalize h4 : nnE b n p3 e3 1 8 = e4 at o4
  generalize hp4 : nnP b n p3 e3 = p4 at o4
  have o5 : Ok n (nnP b n p4 e4) (nnE b n p4 e4 0 16) := Ok_nn o4
  generalize h5 : nnE b n p4 e4 0 16 = e5 at o5
  generalize hp5 : nnP b n p4 e4 = p5 at o5
  have o6 := Ok_ex (b := b) (c := 10) o5
  have mdl : ∀ M K (pg k : Int32), Mb b n M → F_Mo_draw_111 u K pg k 1 (mc M p none) J = bd (F_Mo_bad u (mc M (q_exP b n p5 e5 10) (q_exE b n p5 e5 10)) J) fun r234 I234 J234 => if r234 = 0 then (bd (F_Mo_fill u (nI (nnV b n p none)) (nI (nnV b n p1 e1)) (nI (nnV b n p2 e2)) (nI (nnV b n p3 e3)) (nI (nnV b n p4 e4)) I234 J234) fun _ I258 J258 => F_Mo_draw_304 u K pg k I258 J258) else K pg k I234 J234 := by
    intro M K pg k hM
    unfold F_Mo_draw_111
    rw [m_nn (by omega) ho.m hM, bd_s, h1, hp1, m_nn (by omega) o1.m hM, bd_s, h2, hp2, if_neg (by decide), m_nn (by omega) o2.m hM, bd_s, h3, hp3]
    unfold F_Mo_draw_150
    have q3 := Om_ex (b := b) (c := 32) o3.m
    rw [m_need (by decide) o3.m hM, bd_s, if_neg (by decide), m_told (by omega) q3 hM, bd_s]
    have z1 : q_exP b n p3 e3 32 + q_dd b n (q_exP b n p3 e3 32) (q_exE b n p3 e3 32) = p4 := hp4
    have z2 : q_nmE b n (q_exP b n p3 e3 32) (q_exE b n p3 e3 32) 1 8 = e4 := h4
    have z3 : q_nmV b n (q_exP b n p3 e3 32) (q_exE b n p3 e3 32) = nnV b n p3 e3 := rfl
    rw [z1, z2, z3]
    unfold F_Mo_draw_185
    rw [m_bad o4.m hM, bd_s, if_pos (show ¬ (1 : Int32) = 0 by decide), ite_self]
    unfold F_Mo_draw_218
    rw [m_nn (by omega) o4.m hM, bd_s, h5, hp5, m_need (by decide) o5.m hM, bd_s]
    simp only [if_neg (show ¬ (1 : Int32) = 0 by decide)]
  unfold F_Pl_readBox
  rw [t_nn (by omega) ho hb, bd_s, h1, hp1, t_nn (by omega) o1 hb, bd_s, h2, hp2, t_nn (by omega) o2 hb, bd_s, h3, hp3, t_nn (by omega) o3 hb, bd_s, h4, hp4, t_nn (by omega) o4 hb, bd_s, h5, hp5]
  unfold F_Pl_readBox_70 F_Pl_readLine_25
  cases e5 with
  | some x =>
    left
    refine ⟨I 38, x, p5, nnF b n p4 e4, o5.2 x rfl, o5.1, ?_, fun M K pg k hM => ⟨p5, by have := o5.1; omega, ?_⟩⟩
    · rw [t_irS o5 hb, bd_s, if_pos rfl, bd_s, t_exS o5 hb, bd_s, sr_id]
    · rw [mdl M K pg k hM, ex_some.1, ex_some.2, m_badS o5.m hM, bd_s, if_neg (by decide)]
  | none =>
    have n4 := nnE_n h5
    subst n4
    have n3 := nnE_n h4
    subst n3
    have n2 := nnE_n h3
    subst n2
    have n1 := nnE_n h2
    subst n1
    have v1 := nnV_le (lo := 0) (hi := 7) (by omega) (by omega) h1
    have v2 := nnV_le (lo := 0) (hi := 7) (by omega) (by omega) h2
    have v3 := nnV_le (lo := 1) (hi := 8) (by omega) (by omega) h3
    have v4 := nnV_le (lo := 1) (hi := 8) (by omega) (by omega) h4
    rw [t_ir0 o5 hb, bd_s, if_neg (by decide), nI_add, nI_add, nl_1, pk_sub (by omega), pk_sub (by omega), c_paint (by omega) (by omega) (by omega) (by omega) (by omega), bd_s, bd_s, T3_sr (by omega)]
    have hb2 : Tb b n (sr I 38 (pnt (tc I p5 (nnF b n p4 none) none 38) (nnV b n p none) (nnV b n p1 none) (nnV b n p none + nnV b n p2 none - 1) (nnV b n p1 none + nnV b n p3 none - 1) (nI (nnV b n p4 none)))) := hb.sr (by omega) (by omega)
    rw [t_expect o5 hb2, bd_s]
    rw [tc_r (by omega)]
    cases h6 : q_exE b n p5 none 10 with
    | some x =>
      rw [h6] at o6
      left
      refine ⟨_, x, _, _, o6.2 x rfl, o6.1, rfl, fun M K pg k hM => ⟨q_exP b n p5 none 10, by have := o6.1; omega, ?_⟩⟩
      refine (mdl M K pg k hM).trans ?_
      rw [h6, m_badS o6.m hM, bd_s, if_neg (by decide)]
    | none =>
      rw [h6] at o6
      right
      refine ⟨_, _, _, o6.1, rfl, fun M K pg k hM hR => ⟨pnt (M 137) (nnV b n p none) (nnV b n p1 none) (nnV b n p none + nnV b n p2 none - 1) (nnV b n p1 none + nnV b n p3 none - 1) (nI (nnV b n p4 none)), ?_, ?_⟩⟩
      · intro i hi
        unfold pnt
        rw [hR i hi]
      · refine (mdl M K pg k hM).trans ?_
        rw [h6, m_bad0 o6.m hM, bd_s, if_pos rfl, m_fill (by omega) (by omega) (by omega) (by omega) (by omega) (by omega) (by omega), bd_s]
        unfold F_Mo_draw_304
        rw [M2_sr (by omega), mc_r (by omega)]
theorem nnF_le (ho : Ok n p e) : nnF b n p e ≤ n := (Ok_ex (b := b) (c := 32) ho).1
theorem dw_line (hu : 2000 ≤ u) (hb : Tb b n I) (hp : p ≤ n) :
    (∃ g x p' f', x ≤ n ∧ p' ≤ n ∧ bd (F_Pl_readStroke u (tc I p f none) J) (fun _ I22 J22 => F_Pl_readLine_25 u I22 J22) = some ((), tc (sr I 38 g) p' f' (some x), J) ∧ ∀ M K (pg k : Int32), Mb b n M → ∃ p2, p2 ≤ n + 1 ∧ F_Mo_draw_111 u K pg k 0 (mc M p none) J = K pg k (mc M p2 (some x)) J) ∨
    (∃ g p' f', p' ≤ n ∧ bd (F_Pl_readStroke u (tc I p f none) J) (fun _ I22 J22 => F_Pl_readLine_25 u I22 J22) = some ((), tc (sr I 38 g) p' f' none, J) ∧ ∀ M K (pg k : Int32), Mb b n M → (∀ i, i < 64 → I 38 i = M 137 i) → ∃ g', (∀ i, i < 64 → g i = g' i) ∧ F_Mo_draw_111 u K pg k 0 (mc M p none) J = K pg (k + Int32.ofInt 1) (mc (sr M 137 g') p' none) J) := by
  have ho : Ok n p none := Ok_0 hp
  have o1 : Ok n (nnP b n p none) (nnE b n p none 0 7) := Ok_nn ho
  have w1 := nnV_lt (b := b) (n := n) (p := p) (e := none)
  generalize h1 : nnE b n p none 0 7 = e1 at o1
  generalize hp1 : nnP b n p none = p1 at o1
  have o2 : Ok n (nnP b n p1 e1) (nnE b n p1 e1 0 7) := Ok_nn o1
  have w2 := nnV_lt (b := b) (n := n) (p := p1) (e := e1)
  generalize h2 : nnE b n p1 e1 0 7 = e2 at o2
  generalize hp2 : nnP b n p1 e1 = p2 at o2
  have o3 : Ok n (nnP b n p2 e2) (nnE b n p2 e2 0 7) := Ok_nn o2
  have w3 := nnV_lt (b := b) (n := n) (p := p2) (e := e2)
  generalize h3 : nnE b n p2 e2 0 7 = e3 at o3
  generalize hp3 : nnP b n p2 e2 = p3 at o3
  have o4' : Ok n (nnP b n p3 e3) (nnE b n p3 e3 0 7) := Ok_nn o3
  have w4 := nnV_lt (b := b) (n := n) (p := p3) (e := e3)
  generalize h4 : nnE b n p3 e3 0 7 = e4' at o4'
  generalize hp4 : nnP b n p3 e3 = p4 at o4'
  generalize hx1 : nnV b n p none = x1 at w1
  generalize hx2 : nnV b n p1 e1 = x2 at w2
  generalize hx3 : nnV b n p2 e2 = x3 at w3
  generalize hx4 : nnV b n p3 e3 = x4 at w4
  have o4 : Ok n p4 (if x1 = x3 ∨ x2 = x4 then e4' else q_bl e4' (nnF b n p3 e3)) := by
    split
    · exact o4'
    · exact Ok_bl o4' (nnF_le o3)
  generalize h44 : (if x1 = x3 ∨ x2 = x4 then e4' else q_bl e4' (nnF b n p3 e3)) = e4 at o4
  have o5 : Ok n (nnP b n p4 e4) (nnE b n p4 e4 0 16) := Ok_nn o4
  generalize h5 : nnE b n p4 e4 0 16 = e5 at o5
  generalize hp5 : nnP b n p4 e4 = p5 at o5
  have o6 := Ok_ex (b := b) (c := 10) o5
  have mdl : ∀ M K (pg k : Int32), Mb b n M → F_Mo_draw_111 u K pg k 0 (mc M p none) J = bd (F_Mo_bad u (mc M (q_exP b n p5 e5 10) (q_exE b n p5 e5 10)) J) fun r234 I234 J234 => if r234 = 0 then (bd (F_Jm_min_II u (nI x1) (nI x3) I234 J234) fun r269 I269 J269 =>
      bd (F_Jm_min_II u (nI x2) (nI x4) I269 J269) fun r276 I276 J276 =>
      bd (F_Jm_abs_I u (nI x1 - nI x3) I276 J276) fun r284 I284 J284 =>
      bd (F_Jm_abs_I u (nI x2 - nI x4) I284 J284) fun r294 I294 J294 =>
      bd (F_Mo_fill u r269 r276 (r284 + (1 : Int32)) (r294 + (1 : Int32)) (nI (nnV b n p4 e4)) I294 J294) fun _ I301 J301 =>
      F_Mo_draw_304 u K pg k I301 J301) else K pg k I234 J234 := by
    intro M K pg k hM
    unfold F_Mo_draw_111
    rw [m_nn (by omega) ho.m hM, bd_s, h1, hp1, hx1, m_nn (by omega) o1.m hM, bd_s, h2, hp2, hx2, if_pos rfl, m_nn (by omega) o2.m hM, bd_s, h3, hp3, hx3]
    unfold F_Mo_draw_150
    have q3 := Om_ex (b := b) (c := 32) o3.m
    rw [m_need (by decide) o3.m hM, bd_s, if_pos rfl, m_told (by omega) q3 hM, bd_s]
    have z1 : q_exP b n p3 e3 32 + q_dd b n (q_exP b n p3 e3 32) (q_exE b n p3 e3 32) = p4 := hp4
    have z2 : q_nmE b n (q_exP b n p3 e3 32) (q_exE b n p3 e3 32) 0 7 = e4' := h4
    have z3 : q_nmV b n (q_exP b n p3 e3 32) (q_exE b n p3 e3 32) = x4 := hx4
    have z4 : (mc M (q_exP b n p3 e3 32) (q_exE b n p3 e3 32)) 120 4 = nI (nnF b n p3 e3) := rfl
    rw [z1, z2, z3, z4]
    have e185 : F_Mo_draw_185 u K pg k 0 (nI x1) (nI x2) (nI x3) (nI (nnF b n p3 e3)) (nI x4) (mc M p4 e4') J = F_Mo_draw_218 u K pg k 0 (nI x1) (nI x2) (nI x3) (nI x4) (mc M p4 e4) J := by
      unfold F_Mo_draw_185
      rw [m_bad o4'.m hM, bd_s, m_fail o4'.m hM, bd_s]
      simp (disch := omega) only [nI_eq]
      rw [← h44]
      cases e4' with
      | some y =>
        rw [if_pos (by simp [b2i])]
        have : (if x1 = x3 ∨ x2 = x4 then some y else q_bl (some y) (nnF b n p3 e3)) = some y := by split <;> rfl
        rw [this]
      | none =>
        rw [if_neg (by simp [b2i]), if_neg (by simp)]
        by_cases c1 : x1 = x3
        · rw [if_pos c1, if_pos (Or.inl c1)]
        · rw [if_neg c1]
          by_cases c2 : x2 = x4
          · rw [if_pos c2, if_pos (Or.inr c2)]
          · rw [if_neg c2, if_neg (by omega)]
    rw [e185]
    unfold F_Mo_draw_218
    rw [m_nn (by omega) o4.m hM, bd_s, h5, hp5, m_need (by decide) o5.m hM, bd_s]
    simp only [if_true]
  have cls : bd (F_Pl_readStroke u (tc I p f none) J) (fun _ I22 J22 => F_Pl_readLine_25 u I22 J22) = bd (F_Pl_readStroke_50 u (nI x1) (nI x2) (nI x3) (nI x4) (tc I p4 (nnF b n p3 e3) e4) J) (fun _ I22 J22 => F_Pl_readLine_25 u I22 J22) := by
    unfold F_Pl_readStroke
    rw [t_nn (by omega) ho hb, bd_s, h1, hp1, hx1, t_nn (by omega) o1 hb, bd_s, h2, hp2, hx2, t_nn (by omega) o2 hb, bd_s, h3, hp3, hx3, t_nn (by omega) o3 hb, bd_s, h4, hp4, hx4, t_blameToken o4' hb, bd_s]
    simp (disch := omega) only [nI_eq]
    rw [← h44]
    by_cases c1 : x1 = x3
    · rw [if_pos c1, if_pos (Or.inl c1)]
    · rw [if_neg c1]
      by_cases c2 : x2 = x4
      · rw [if_pos c2, if_pos (Or.inr c2)]
      · rw [if_neg c2, if_neg (by omega)]
  rw [cls]
  unfold F_Pl_readStroke_50 F_Pl_readStroke_96 F_Pl_readLine_25
  rw [t_nn (by omega) o4 hb, bd_s, h5, hp5]
  cases e5 with
  | some x =>
    left
    refine ⟨I 38, x, p5, nnF b n p4 e4, o5.2 x rfl, o5.1, ?_, fun M K pg k hM => ⟨p5, by have := o5.1; omega, ?_⟩⟩
    · rw [t_irS o5 hb, bd_s, if_pos rfl, bd_s, t_exS o5 hb, bd_s, sr_id]
    · rw [mdl M K pg k hM, ex_some.1, ex_some.2, m_badS o5.m hM, bd_s, if_neg (by decide)]
  | none =>
    have n4 := nnE_n h5
    subst n4
    have n44 : e4' = none := by
      split at h44
      · exact h44
      · cases e4' with
        | none => rfl
        | some y => cases h44
    subst n44
    have n3 := nnE_n h4
    subst n3
    have n2 := nnE_n h3
    subst n2
    have n1 := nnE_n h2
    subst n1
    have v1 := nnV_le (lo := 0) (hi := 7) (by omega) (by omega) h1
    have v2 := nnV_le (lo := 0) (hi := 7) (by omega) (by omega) h2
    have v3 := nnV_le (lo := 0) (hi := 7) (by omega) (by omega) h3
    have v4 := nnV_le (lo := 0) (hi := 7) (by omega) (by omega) h4
    rw [hx1] at v1
    rw [hx2] at v2
    rw [hx3] at v3
    rw [hx4] at v4
    rw [t_ir0 o5 hb, bd_s, if_neg (by decide), j_minN (by omega) (by omega), bd_s, j_minN (by omega) (by omega), bd_s, j_maxN (by omega) (by omega), bd_s, j_maxN (by omega) (by omega), bd_s, c_paint (by omega) (by omega) (by omega) (by omega) (by omega), bd_s, bd_s, T3_sr (by omega)]
    have hb2 : Tb b n (sr I 38 (pnt (tc I p5 (nnF b n p4 none) none 38) (min x1 x3) (min x2 x4) (max x1 x3) (max x2 x4) (nI (nnV b n p4 none)))) := hb.sr (by omega) (by omega)
    rw [t_expect o5 hb2, bd_s]
    rw [tc_r (by omega)]
    cases h6 : q_exE b n p5 none 10 with
    | some x =>
      rw [h6] at o6
      left
      refine ⟨_, x, _, _, o6.2 x rfl, o6.1, rfl, fun M K pg k hM => ⟨q_exP b n p5 none 10, by have := o6.1; omega, ?_⟩⟩
      refine (mdl M K pg k hM).trans ?_
      rw [h6, m_badS o6.m hM, bd_s, if_neg (by decide)]
    | none =>
      rw [h6] at o6
      right
      refine ⟨_, _, _, o6.1, rfl, fun M K pg k hM hR => ⟨pnt (M 137) (min x1 x3) (min x2 x4) (max x1 x3) (max x2 x4) (nI (nnV b n p4 none)), ?_, ?_⟩⟩
      · intro i hi
        unfold pnt
        rw [hR i hi]
      · refine (mdl M K pg k hM).trans ?_
        rw [h6, m_bad0 o6.m hM, bd_s, if_pos rfl, j_minN (by omega) (by omega), bd_s, j_minN (by omega) (by omega), bd_s, j_abs (by omega) (by omega), bd_s, j_abs (by omega) (by omega), bd_s, nI_1, nI_1, m_fill (by omega) (by omega) (by omega) (by omega) (by omega) (by omega) (by omega), bd_s]
        unfold F_Mo_draw_304
        rw [M2_sr (by omega), mc_r (by omega)]
        have q1 : min x1 x3 + (max x1 x3 - min x1 x3 + 1) - 1 = max x1 x3 := by omega
        have q2 : min x2 x4 + (max x2 x4 - min x2 x4 + 1) - 1 = max x2 x4 := by omega
        rw [q1, q2]
end Draw
