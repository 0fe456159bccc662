/-! ===== methods that move references: putBack, distribute, pile ===== -/
theorem RT_ga {pa pb : Nat} {ga : Nat → Nat} {j a : Nat} : pm_up (pm_RT pa pb ga) 56 j (.ref a) = pm_RT pa pb (fun l => if l = j then a else ga l) := by
  funext c
  by_cases h : c = 56
  · subst h
    rw [pm_up_eq]
    funext k
    show (if k = j then Value.ref a else Value.ref (ga k)) = Value.ref (if k = j then a else ga k)
    split <;> rfl
  · rw [pm_up_ne h]
    unfold pm_RT
    rw [nb_f h]
    rfl
theorem RT_16 {pa pb : Nat} {ga : Nat → Nat} : ∀ k, k ≠ 9 → k ≠ 10 → pm_RT pa pb ga 16 k = pm_RT pb pa ga 16 k
  | 0, _, _ => rfl
  | 1, _, _ => rfl
  | 2, _, _ => rfl
  | 3, _, _ => rfl
  | 4, _, _ => rfl
  | 5, _, _ => rfl
  | 6, _, _ => rfl
  | 7, _, _ => rfl
  | 8, _, _ => rfl
  | 9, h, _ => absurd rfl h
  | 10, _, h => absurd rfl h
  | n + 11, _, _ => rfl
theorem RT_sw {pa pb : Nat} {ga : Nat → Nat} : pm_up (pm_up (pm_RT pa pb ga) 16 10 (.ref pa)) 16 9 (.ref pb) = pm_RT pb pa ga := by
  funext c
  by_cases h : c = 16
  · subst h
    rw [pm_up_eq, pm_up_eq]
    funext k
    by_cases h9 : k = 9
    · subst h9; rfl
    · by_cases h10 : k = 10
      · subst h10; rfl
      · rw [if_neg h9]
        dsimp only
        rw [if_neg h10]
        exact RT_16 k h9 h10
  · rw [pm_up_ne h, pm_up_ne h]
    unfold pm_RT
    rw [nb_f h]
    rfl
section PutBack
variable {k u : Nat} {pa pb : Nat} {J : pm_JJ} {Q : Option Value → pm_H → Prop}
theorem tl_letterAt {a i t : Nat} {x s : Nat → Nat} {w : Nat} {I : pm_II} (hi : i < t) (ht : t ≤ 155) (h1 : I a 1 = nI t) (hx : x i ≤ 26) (hs : ∀ q, q + 1 < w → s q ≤ 1000) (h0 : x i = 0 → zc x i + 1 < w ∧ I (a + 1) i = -(nI (s (zc x i)))) (h2 : ¬ x i = 0 → I (a + 1) i = nI (x i)) : F_Tl_letterAt u a (nI i) I J = some (nI (x i), I, J) := by
  unfold F_Tl_letterAt
  rw [if_neg (nI_pos (by omega)), h1, if_neg (by rw [nI_leI (by omega) (by omega)]; omega), vqT (show i < 155 by omega) (by omega), nI_clamp (by omega), cond_true, j_max, bd_s]
  by_cases c : x i = 0
  · obtain ⟨c1, c2⟩ := h0 c
    have hs0 := hs _ c1
    rw [c2, c]
    by_cases d : s (zc x i) = 0
    · rw [d]; rfl
    · rw [if_neg]
      · rfl
      · intro z
        have z1 := Int32.le_iff_toInt_le.mp z
        rw [Int32.toInt_neg, nI_toInt (by omega), bm32 (by omega) (by omega)] at z1
        have : ((0 : Int32)).toInt = 0 := rfl
        omega
  · rw [h2 c, if_pos (by rw [← nI_0, nI_leI (by omega) (by omega)]; omega)]
theorem stk_up {S : Nat → Int32} {x : Nat → Nat} {i : Nat} {I : pm_II} (h : ¬ x i = 0) : pm_up (sr I 49 (stk S x i)) 49 (x i - 1) (stk S x i (x i - 1) + 1) = sr I 49 (stk S x (i + 1)) := by
  rw [sr_up]
  congr 1
  funext j
  rw [stk]
  dsimp only
  by_cases q : j + 1 = x i
  · rw [if_pos (by omega), if_pos q, show x i - 1 = j by omega]
  · rw [if_neg (by omega), if_neg q]
theorem stk_0 {S : Nat → Int32} {x : Nat → Nat} {i : Nat} (h : x i = 0) : stk S x (i + 1) = stk S x i := by
  funext j
  rw [stk]
  dsimp only
  rw [if_neg (by omega)]
theorem pb19 {ga : Nat → Nat} {a t w : Nat} {x s : Nat → Nat} {x1 : Int32} {I : pm_II} (ha : oT a) (ht : t ≤ 155) (hx : ∀ i, i < t → x i ≤ 26) (hs : ∀ q, q + 1 < w → s q ≤ 1000) (h1 : I a 1 = nI t) (hm : ∀ i, i < t → (x i = 0 → zc x i + 1 < w ∧ I (a + 1) i = -(nI (s (zc x i)))) ∧ (¬ x i = 0 → I (a + 1) i = nI (x i))) (hQ : Px (k + 2) 176 m_Ty_putBack 68 [.ref 48, .int x1, .ref a, .int x1, .null] [] (hp (sr I 49 (stk (I 49) x t)) J (pm_RT pa pb ga)) Q) : ∀ (d i : Nat), i + d = t → Px (k + 2) 176 m_Ty_putBack 19 [.ref 48, .int x1, .ref a, .int (nI i), .null] [] (hp (sr I 49 (stk (I 49) x i)) J (pm_RT pa pb ga)) Q := by
  intro d
  have hr := oT_r ha
  have hA : ∀ i, (sr I 49 (stk (I 49) x i)) a 1 = nI t := fun i => by rw [sr_ne (by omega)]; exact h1
  have hB : ∀ i j, (sr I 49 (stk (I 49) x i)) (a + 1) j = I (a + 1) j := fun i j => by rw [sr_ne (by omega)]
  induction d with
  | zero =>
    intro i hi
    obtain rfl : i = t := by omega
    refine bk_Ty_putBack_19 ⟨oT_ob ha, ?_⟩
    refine fx_Tl_length (u := 0) (r := nI i) (by omega) ha (by unfold F_Tl_length; rw [hA]) ⟨rfl, ?_⟩
    refine bk_Ty_putBack_24 (s0 := nI i) (s1 := nI i) ⟨fun z => hQ, fun z => absurd ?_ z⟩
    rw [nI_leI (by omega) (by omega)]; omega
  | succ d ih =>
    intro i hi
    have hxi := hx i (by omega)
    refine bk_Ty_putBack_19 ⟨oT_ob ha, ?_⟩
    refine fx_Tl_length (u := 0) (r := nI t) (by omega) ha (by unfold F_Tl_length; rw [hA]) ⟨rfl, ?_⟩
    refine bk_Ty_putBack_24 (s0 := nI i) (s1 := nI t) ⟨fun z => absurd z (by rw [nI_leI (by omega) (by omega)]; omega), fun _ => ⟨oT_ob ha, ?_⟩⟩
    refine fx_Tl_letterAt (u := 0) (r := nI (x i)) (by omega) ha (tl_letterAt (w := w) (s := s) (by omega) ht (hA i) hxi hs (by rw [hB]; exact (hm i (by omega)).1) (by rw [hB]; exact (hm i (by omega)).2)) ⟨rfl, ?_⟩
    have hn := ih (i + 1) (by omega)
    refine bk_Ty_putBack_32 (s0 := nI (x i)) ⟨fun z => ?_, fun z => ⟨fun z2 => ?_, fun _ => ?_⟩⟩
    · rw [nl_1, nI_ltI (by omega) (by omega)] at z
      rw [nI_io1, nI_add]
      rw [stk_0 (by omega)] at hn
      exact Px_wk hn ⟨Or.inl rfl, Or.inl rfl, Or.inl rfl, Or.inl rfl, Or.inr ⟨rfl, rfl⟩, trivial⟩
    · rw [show (26 : Int32) = nI 26 from rfl, nI_ltI (by omega) (by omega)] at z2
      omega
    · rw [nl_1, nI_ltI (by omega) (by omega)] at z
      have e : nI (x i) - (1 : Int32) = nI (x i - 1) := by rw [nl_1, pk_sub (by omega)]
      rw [e, nI_clamp (by omega)]
      refine ⟨vq_in (vqT (show x i - 1 < 26 by omega) (by omega)), vq_in (vqT (show x i - 1 < 26 by omega) (by omega)), ?_⟩
      rw [nI_io1, nI_add, sr_at, stk_up (by omega)]
      exact Px_wk hn ⟨Or.inl rfl, Or.inl rfl, Or.inl rfl, Or.inl rfl, Or.inr ⟨rfl, rfl⟩, trivial⟩
theorem pb68 {ga : Nat → Nat} {l g : Nat} {x1 : Int32} {I : pm_II} (hG : G5 ga) (hl : l < g) (hg : g ≤ 16) (h9 : I 48 9 = nI g) (hQ : Q (some (.int (nI (g - 1)))) (hp (pm_up I 48 9 (nI (g - 1))) J (pm_RT pa pb (rot ga l g)))) : ∀ (d i : Nat), i + d + 1 = g → l ≤ i → Px (k + 1) 176 m_Ty_putBack 68 [.ref 48, .int x1, .ref (ga l), .int (nI i), .null] [] (hp I J (pm_RT pa pb (fun j => if l ≤ j ∧ j < i then ga (j + 1) else ga j))) Q := by
  intro d
  have e : I 48 9 - (1 : Int32) = nI (g - 1) := by rw [h9, nl_1, pk_sub (by omega)]
  induction d with
  | zero =>
    intro i hi hli
    refine bk_Ty_putBack_68 ⟨fun z => ?_, fun z => absurd ?_ z⟩
    · rw [e, nI_clamp (by omega)]
      refine ⟨vq_in (vqT (show g - 1 < 16 by omega) (by omega)), oT_ob (hG.1 l (by omega)), ?_⟩
      rw [RT_ga]
      have e2 : (fun j => if j = g - 1 then ga l else if l ≤ j ∧ j < i then ga (j + 1) else ga j) = rot ga l g := by
        unfold rot
        rw [show i = g - 1 by omega]
      rw [e2]
      exact hQ
    · rw [e, nI_leI (by omega) (by omega)]; omega
  | succ d ih =>
    intro i hi hli
    refine bk_Ty_putBack_68 ⟨fun z => absurd z (by rw [e, nI_leI (by omega) (by omega)]; omega), fun z => ?_⟩
    rw [nI_1, nI_clamp (by omega), nI_clamp (by omega)]
    refine ⟨vq_in (vqT (show i + 1 < 16 by omega) (by omega)), vq_in (vqT (show i < 16 by omega) (by omega)), ?_, ?_⟩
    · rw [if_neg (by omega)]
      exact oT_ob (hG.1 (i + 1) (by omega))
    · rw [RT_ga, nI_io1, nI_add]
      have e2 : (fun j => if j = i then (if l ≤ i + 1 ∧ i + 1 < i then ga (i + 1 + 1) else ga (i + 1)) else if l ≤ j ∧ j < i then ga (j + 1) else ga j) = (fun j => if l ≤ j ∧ j < i + 1 then ga (j + 1) else ga j) := by
        funext j
        by_cases q : j = i
        · subst q
          rw [if_pos rfl, if_neg (by omega), if_pos (by omega)]
        · rw [if_neg q]
          have e3 : (l ≤ j ∧ j < i) ↔ (l ≤ j ∧ j < i + 1) := by omega
          simp only [e3]
      rw [e2]
      exact ih (i + 1) (by omega) (by omega)
end PutBack
theorem pc_distribute {k u : Nat} {pa pb : Nat} {ga : Nat → Nat} {I : pm_II} {J : pm_JJ} {x : Int32} (hu : 400 ≤ u) (h : P5 ga I) : ∃ v I1 ga2 I2, (∀ Q : Option Value → pm_H → Prop, Q (some (.int v)) (hp I1 J (pm_RT pa pb ga2)) → Px (k + 3) 176 m_Ph_distribute 0 [.ref 16, .int x] [] (hp I J (pm_RT pa pb ga)) Q) ∧ F_Mo_distribute u x I1 J = some (v, I2, J) ∧ P5 ga2 I2 ∧ Fr 5 I I2 ∧ (Ptape I → Ptape I2) := by
  have hP := h
  obtain ⟨hG, hS, g, hg, h9, h56, hL⟩ := h
  have hst : ∀ Q : Option Value → pm_H → Prop, (∀ r : Int32, r = b2i (rng x g) → Px (k + 2) 176 m_Ty_putBack 5 [.ref 48, .int x, .null, .null, .null] [.int r] (hp I J (pm_RT pa pb ga)) Q) → Px (k + 2) 176 m_Ty_putBack 0 [.ref 48, .int x, .null, .null, .null] [] (hp I J (pm_RT pa pb ga)) Q := by
    intro Q hQ
    refine bk_Ty_putBack_0 ?_
    exact fx_Ty_stands (u := u) (by omega) (ty_stands hg h9) ⟨rfl, hQ _ rfl⟩
  have eM : ∀ I1 : pm_II, I1 120 56 = nI g → F_Mo_distribute u x I1 J = cond (rng x g) (F_Mo_distribute_12 u u x (0 : Int32) I1 J) (some (-1, I1, J)) := by
    intro I1 h1
    unfold F_Mo_distribute
    rw [m_isLine hg h1, bd_s, b2i_ifn]
  cases hx : rng x g with
  | false =>
    refine ⟨-1, I, ga, I, fun Q hQ => ?_, by rw [eM I h56, hx]; rfl, hP, Fr.refl _ _, id⟩
    refine bk_Ph_distribute_0 ?_
    refine hst _ (fun r hr => ?_)
    rw [hx] at hr
    subst hr
    refine bk_Ty_putBack_5 ⟨fun z => absurd rfl z, fun _ => ⟨rfl, ?_⟩⟩
    exact bk_Ph_distribute_8 hQ
  | true =>
    obtain ⟨l, hl, rfl⟩ := rng_n (by omega) hx
    obtain ⟨t, w, xx, s, ⟨a1, a2, a3, a4⟩, ⟨b1, b2, b3, b4, b5, b6⟩, ⟨c1, c2⟩, d, e⟩ := hL l hl
    have haT := hG.1 l (by omega)
    have hr := oT_r haT
    have e' : ∀ k, k < t → I 149 (160 * l + k) = nI (xx k) := fun k hk => (e k hk).2.1
    have h91 : (sr I 49 (stk (I 49) xx t)) 48 9 = nI g := h9
    obtain ⟨Z, z1, z2, z3⟩ := m_d12 (u := u) (J := J) (l := l) (t := t) (x := xx) (S := I 49) (by omega) a4 (fun k hk => (e k hk).1) t 0 u (pm_up (sr I 49 (stk (I 49) xx t)) 48 9 (nI (g - 1))) (by omega) (by omega) b1 e' (fun j hj => ((hS j hj).1).symm)
    obtain ⟨V, v1, v2, v3, v4⟩ := m_d66 (u := u) (J := J) (g := g) (by omega) hg (g - 1 - l) l u Z (by omega) (by omega) (by rw [z2 120 56 (by omega)]; exact h56)
    have oF : On k5 I V := On.trans (On.trans (On.up (On.sr (On.refl I) (fun k => Or.inl (by omega))) (Or.inl (by omega))) (z2.mono (fun c k z => Or.inr (Or.inl (by omega))))) (v2.mono (fun c k z => by unfold kD at z; unfold k5; omega))
    refine ⟨nI (g - 1), pm_up (sr I 49 (stk (I 49) xx t)) 48 9 (nI (g - 1)), rot ga l g, V, fun Q hQ => ?_, ?_, ⟨rot_G5 hG hl hg, fun k hk => ?_, g - 1, by omega, ?_, v3, fun q hq => ?_⟩, oF.fr (fun c k z => k5_own z), Ptape_k5 oF⟩
    · refine bk_Ph_distribute_0 ?_
      refine hst _ (fun r hr => ?_)
      rw [hx] at hr
      subst hr
      refine bk_Ty_putBack_5 ⟨fun _ => ⟨vq_in (vqT (show l < 16 by omega) (by omega)), ?_⟩, fun z => absurd (show ¬ b2i true = 0 by decide) z⟩
      rw [nI_clamp (by omega)]
      have h68 := pb68 (k := k + 1) (J := J) (pa := pa) (pb := pb) (x1 := nI l) (Q := fun r h' => h'.1 = 176 ∧ Px (k + 2 + 1) 176 m_Ph_distribute 8 [.ref 16, .int (nI l)] (r.toList ++ []) h' Q) hG hl hg h91 ⟨rfl, bk_Ph_distribute_8 hQ⟩ (g - 1 - l) l (by omega) (Nat.le_refl _)
      have e2 : (fun j => if l ≤ j ∧ j < l then ga (j + 1) else ga j) = ga := by
        funext j
        rw [if_neg (by omega)]
      rw [e2] at h68
      have h19 := pb19 (k := k) (J := J) (pa := pa) (pb := pb) (ga := ga) (w := w) (s := s) (x := xx) (I := I) haT a4 (fun k hk => (e k hk).1) (fun q hq => (d q hq).2) b3 (fun i hi => ⟨(e i hi).2.2.1, (e i hi).2.2.2⟩) h68 t 0 (by omega)
      have e3 : sr I 49 (stk (I 49) xx 0) = I := sr_id I 49
      rw [e3] at h19
      exact h19
    · rw [eM (pm_up (sr I 49 (stk (I 49) xx t)) 48 9 (nI (g - 1))) h56, hx, cond_true]
      exact z1.trans v1
    · obtain ⟨q1, q2, wq, q3, q4⟩ := hS k hk
      rw [v2 49 k (by unfold kD; omega), v2 50 k (by unfold kD; omega), v2 146 _ (by unfold kD; omega), v2 147 _ (by unfold kD; omega), z3 k hk, z2 49 k (by omega), z2 50 k (by omega), z2 147 _ (by omega)]
      exact ⟨rfl, q2, wq, q3, q4⟩
    · rw [v2 48 9 (by unfold kD; omega), z2 48 9 (by omega)]
      rfl
    · have hrow : ∀ r, RE Z r I r := fun r => ⟨fun k _ => by rw [z2 149 _ (by omega)]; rfl, fun k _ => by rw [z2 153 _ (by omega)]; rfl, by rw [z2 150 _ (by omega)]; rfl, by rw [z2 151 _ (by omega)]; rfl, by rw [z2 152 _ (by omega)]; rfl⟩
      have hcell : ∀ c j, (∃ r, r < 16 ∧ (c = ga r ∨ c = ga r + 1)) → V c j = I c j := by
        intro c j ⟨r, r1, r2⟩
        have hrr := oT_r (hG.1 r r1)
        rw [v2 c j (by unfold kD; omega), z2 c j (by omega), pm_up_ne (by omega), sr_ne (by omega)]
      have hgo : ∀ r, r < g → rot ga l g q = ga r → RE V q I r → L5 (rot ga l g) V q := by
        intro r hr1 hr2 hr3
        unfold L5
        rw [hr2]
        exact (hL r hr1).c (fun j => hcell _ _ ⟨r, by omega, Or.inl rfl⟩) (fun j => hcell _ _ ⟨r, by omega, Or.inr rfl⟩) (fun j hj => hr3.1 j hj) (fun j hj => hr3.2.1 j hj) hr3.2.2.1 hr3.2.2.2.1 hr3.2.2.2.2
      by_cases c : q < l
      · refine hgo q (by omega) ?_ (((v4 q).1 c).trans (hrow q))
        unfold rot
        rw [if_neg (by omega), if_neg (by omega)]
      · refine hgo (q + 1) (by omega) ?_ (((v4 q).2 (by omega) (by omega)).trans (hrow (q + 1)))
        unfold rot
        rw [if_neg (by omega), if_pos (by omega)]
