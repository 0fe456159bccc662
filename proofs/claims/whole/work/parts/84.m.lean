/-! ===== letters: one line, both sides ===== -/
def ctn (u N k : Nat) (X : pm_II) (Y : pm_JJ) : Option (Int32 × pm_II × pm_JJ) := if (40 : Int32) ≤ nI (k + 1) then F_Ma_takeText_69 u X Y else bd (F_Ta_hasMore u X Y) fun r63 I63 J63 => if ¬ r63 = 0 then F_Ma_takeText_5 u N I63 J63 else F_Ma_takeText_69 u I63 J63
section Line
variable {u : Nat} {I M : pm_II} {J : pm_JJ} {b : Nat → Int32} {n p f : Nat} {e : Option Nat}
/-- the model: a name, then the line's end -/
theorem m_nameN (hu : 100 ≤ u) (hbb : ∀ j, j < n → ∃ x : Nat, x < 256 ∧ b j = nI x) (hM : Mb b n M) (hp : p ≤ n) : ∃ y q e', F_Mo_nameHere u (mc M p none) J = some (y, mc M q e', J) ∧ Om n q e' ∧ ((q_ll b n p none 8 true = 0 ∧ e' = some p) ∨ (q_ll b n p none 8 true ≠ 0 ∧ (e' = none → q = p + q_ll b n p none 8 true ∧ y = lN (nmA (fun i => bv b (p + i)) (q_ll b n p none 8 true) 8)) ∧ (∀ z, e' = some z → z = p + q_ll b n p none 8 true ∧ p + q_ll b n p none 8 true < n ∧ ¬ b (p + q_ll b n p none 8 true) = 10))) := by
  have hn := hM.2.2
  have ho : Ok n p none := Ok_0 hp
  have h4 : (mc M p none) 120 4 = nI p := rfl
  have hq : q_ll b n p none 8 true = r_ll b true (min 8 (n - p)) 0 p := rfl
  unfold F_Mo_nameHere
  rw [m_bad0 ho.m hM, bd_s, if_pos rfl, m_here ho.m hM, bd_s, m_isSmall, bd_s, b2i_ifn, h4, m_fail0 ho.m hM, bd_s]
  by_cases c : 97 ≤ h_re b n p ∧ h_re b n p ≤ 122
  · have hpn : p < n := by
      unfold h_re at c
      by_cases q : p < n
      · exact q
      · rw [if_neg q] at c; exact absurd c (by decide)
    have hh : h_re b n p = b p := by unfold h_re; rw [if_pos hpn]
    rw [hh] at c
    rw [hh, decide_eq_true c, cond_true]
    obtain ⟨U, rfl⟩ : ∃ z, u = z + 1 := ⟨u - 1, by omega⟩
    obtain ⟨x, hx, hx2⟩ := hbb p hpn
    obtain ⟨e1, e2⟩ := bv_e hx hx2
    have e61 : F_Mo_nameHere_34 (U + 1) (U + 1) (Int64.ofNat 0) (nI p) (mc M p none) J = F_Mo_nameHere_34 (U + 1) U (lN (256 ^ (8 - 1) * nmA (fun j => bv b (p + j)) 8 1)) (nI p) (mc M (p + 1) none) J := by
      rw [F_Mo_nameHere_34, m_bad0 ho.m hM, bd_s, if_neg (by decide), m_here ho.m hM, bd_s, m_isSmall, bd_s, b2i_ifn, hh, decide_eq_true c, cond_true]
      unfold F_Mo_nameHere_61
      rw [h4, pk_sub (by omega), Nat.sub_self, if_pos (by decide), m_here ho.m hM, bd_s, hh, e1, nI_l (by omega), h4, pk_sub (by omega), Nat.sub_self]
      rw [show (56 : Int32) - 8 * nI 0 = nI 56 from rfl, lN_shl (by omega), nI_1, M2_a]
      have hb56 : bv b p * 2 ^ 56 < 2 ^ 64 := by
        have : bv b p * 2 ^ 56 ≤ 255 * 2 ^ 56 := Nat.mul_le_mul_right _ (by omega)
        omega
      have : Int64.ofNat 0 ||| lN (bv b p * 2 ^ 56) = lN (256 ^ (8 - 1) * nmA (fun j => bv b (p + j)) 8 1) := by
        have z : Int64.ofNat 0 = lN 0 := rfl
        rw [z, lN_or (by omega) hb56, Nat.zero_or]
        congr 1
        show bv b p * 2 ^ 56 = 256 ^ 7 * (256 * 0 + (if 0 < 8 then bv b (p + 0) else 0))
        rw [if_pos (by omega), Nat.mul_zero, Nat.zero_add, Nat.add_zero, Nat.mul_comm, show (256 : Nat) ^ 7 = 2 ^ 56 by decide]
      rw [this]
    rw [e61]
    obtain ⟨l, l1, l2, y, q, e', a1, a2, a3, a4⟩ := m_name34 (u := U + 1) (J := J) (p := p) hbb hM 7 1 U (by omega) (by omega) (by omega) (by omega)
    have hl : q_ll b n p none 8 true = l := by
      rw [hq]
      have : min 8 (n - p) = min 7 (n - (p + 1)) + 1 := by omega
      rw [this, r_ll, if_pos (Or.inl c), l1, Nat.add_comm]
    refine ⟨y, q, e', a1, a2, Or.inr ⟨by rw [hl, l1]; omega, fun he => ?_, fun z hz => ?_⟩⟩
    · obtain ⟨b1, b2, b3⟩ := a3 he
      rw [hl]
      refine ⟨b1, ?_⟩
      rw [b3, ← nmA_c (l := l) (m := 8) l (by omega) (by omega), ← nmA_pad]
      congr 2; omega
    · rw [hl]; exact a4 z hz
  · rw [decide_eq_false c, cond_false]
    obtain ⟨U, rfl⟩ : ∃ z, u = z + 1 := ⟨u - 1, by omega⟩
    have hoS : Om n p (some p) := ho.m.s hp
    refine ⟨Int64.ofNat 0, p, some p, ?_, hoS, Or.inl ⟨?_, rfl⟩⟩
    · rw [F_Mo_nameHere_34, m_badS hoS hM, bd_s, if_pos (by decide)]; rfl
    · rw [hq]
      by_cases q : p < n
      · have hh : h_re b n p = b p := by unfold h_re; rw [if_pos q]
        rw [hh] at c
        obtain ⟨m, hm⟩ : ∃ m, min 8 (n - p) = m + 1 := ⟨min 8 (n - p) - 1, by omega⟩
        rw [hm, r_ll, if_neg]
        rintro (h | ⟨_, h, _⟩)
        · exact c h
        · omega
      · rw [show min 8 (n - p) = 0 by omega]; rfl
/-- one line -/
theorem ln_step {k : Nat} (hu : 1700 ≤ u) (hbb : ∀ j, j < n → ∃ x : Nat, x < 256 ∧ b j = nI x) (hb : Tb b n I) (hp : p ≤ n) (hk : k < 40) (h5 : I 89 5 = nI k) :
    (∃ z v w p' f', z ≤ n ∧ p' ≤ n ∧ (∀ N, F_Ma_takeText_5 u (N + 1) (tc I p f none) J = ctn u N k (tc (pm_up (pm_up I 93 k v) 89 5 (nI (k + 1))) p' f' (some z)) (pm_up J 94 k w)) ∧ ∀ M (JM : pm_JJ) (K : Int32 → pm_II → pm_JJ → Option (Int32 × pm_II × pm_JJ)) (x1 : Int32), Mb b n M → ∃ p2, p2 ≤ n + 1 ∧ F_Mo_letters_50 u K x1 (mc M p none) JM = K x1 (mc M p2 (some z)) JM) ∨
    (∃ cd nm p' f', cd < 100000 ∧ p' ≤ n ∧ (∀ N, F_Ma_takeText_5 u (N + 1) (tc I p f none) J = ctn u N k (tc (pm_up (pm_up I 93 k (nI cd)) 89 5 (nI (k + 1))) p' f' none) (pm_up J 94 k nm)) ∧ ∀ M (JM : pm_JJ) (K : Int32 → pm_II → pm_JJ → Option (Int32 × pm_II × pm_JJ)) (x1 : Int32), Mb b n M → F_Mo_letters_50 u K x1 (mc M p none) JM = F_Mo_letters_149 u K u (x1 + Int32.ofInt 1) (nI cd) nm 0 0 (mc M p' none) JM) := by
  have hn := hb.2.2
  have h5' : ∀ q g e', (tc I q g e') 89 5 = nI k := fun q g e' => by rw [tc_r (by omega)]; exact h5
  have c40 : vq (nI k) 40 = true := vqT hk (by omega)
  -- the class, from the code on
  have cls : ∀ (v : Int32) (q g : Nat) (e' : Option Nat), Ok n q e' → F_Ma_readCode u (tc I p f none) J = some (v, tc I q g e', J) → ∃ w p' f', ∀ N, F_Ma_takeText_5 u (N + 1) (tc I p f none) J = ctn u N k (tc (pm_up (pm_up I 93 k v) 89 5 (nI (k + 1))) p' f' (q_exE b n (q_exP b n q e' 32 + q_ll b n (q_exP b n q e' 32) (q_exE b n q e' 32) 8 true) (if q_ll b n (q_exP b n q e' 32) (q_exE b n q e' 32) 8 true = 0 then q_bl (q_exE b n q e' 32) (q_exP b n q e' 32) else q_exE b n q e' 32) 10)) (pm_up J 94 k w) ∧ w = lN (nmA (fun i => bv b (q_exP b n q e' 32 + i)) (q_ll b n (q_exP b n q e' 32) (q_exE b n q e' 32) 8 true) 8) ∧ p' = q_exP b n (q_exP b n q e' 32 + q_ll b n (q_exP b n q e' 32) (q_exE b n q e' 32) 8 true) (if q_ll b n (q_exP b n q e' 32) (q_exE b n q e' 32) 8 true = 0 then q_bl (q_exE b n q e' 32) (q_exP b n q e' 32) else q_exE b n q e' 32) 10 := by
    intro v q g e' hq hc
    have hb2 : Tb b n (pm_up I 93 k v) := hb.put (by omega) (by omega)
    have o2 := Ok_ex (b := b) (c := 32) hq
    have hl := q_ll_le (b := b) (n := n) (p := q_exP b n q e' 32) (e := q_exE b n q e' 32) (most := 8) (od := true)
    have o3 : Ok n (q_exP b n q e' 32 + q_ll b n (q_exP b n q e' 32) (q_exE b n q e' 32) 8 true) (if q_ll b n (q_exP b n q e' 32) (q_exE b n q e' 32) 8 true = 0 then q_bl (q_exE b n q e' 32) (q_exP b n q e' 32) else q_exE b n q e' 32) := by
      refine ⟨by have := o2.1; omega, ?_⟩
      split
      · exact q_bl_le o2 o2.1
      · exact o2.2
    refine ⟨_, _, q_exP b n q e' 32, fun N => ⟨?_, rfl, rfl⟩⟩
    rw [F_Ma_takeText_5, hc, bd_s, h5', c40, cond_true, nI_clamp (by omega), T3_o (by omega), t_expect hq hb2, bd_s, c_name hu hbb o2 hb2, bd_s]
    have h5b : ∀ q g e', (tc (pm_up I 93 k v) q g e') 89 5 = nI k := fun q g e' => by rw [tc_r (by omega), ur, if_neg (by omega)]; exact h5
    rw [h5b, c40, cond_true, nI_clamp (by omega), t_expect o3 hb2, bd_s, h5b, nI_1, T3_o (by omega)]
    rfl
  rcases c_code (u := u) (J := J) (f := f) (by omega) hb hp with ⟨d1, d2, d3⟩ | ⟨g, v, d1, d2, d3, d4⟩
  · have hp5 : p + 5 ≤ n := by have := (d1 4 (by omega)).1; omega
    have o1 : Ok n (p + 5) none := Ok_0 hp5
    obtain ⟨w, p', f', hc⟩ := cls _ _ _ _ o1 d2
    have hcd : r_vn b p 5 < 100000 := r_vn_lt 5 (fun j hj => (d1 j hj).2)
    have o2 := Ok_ex (b := b) (c := 32) o1
    generalize hq2 : q_exP b n (p + 5) none 32 = q2 at *
    have m113 : ∀ M (JM : pm_JJ) (K : Int32 → pm_II → pm_JJ → Option (Int32 × pm_II × pm_JJ)) (x1 : Int32), Mb b n M → F_Mo_letters_50 u K x1 (mc M p none) JM = bd (F_Mo_nameHere u (mc M q2 (q_exE b n (p + 5) none 32)) JM) fun r120 I120 J120 => bd (F_Mo_need u (10 : Int32) I120 J120) fun _ I127 J127 => bd (F_Mo_bad u I127 J127) fun r131 I131 J131 => if r131 = 0 then F_Mo_letters_149 u K u (x1 + Int32.ofInt 1) (nI (r_vn b p 5)) r120 (0 : Int32) (0 : Int32) I131 J131 else K x1 I131 J131 := by
      intro M JM K x1 hM
      rw [d3 M JM K x1 hM]
      unfold F_Mo_letters_113
      rw [m_need (by decide) o1.m hM, bd_s, hq2]
    cases he2 : q_exE b n (p + 5) none 32 with
    | some z =>
      rw [he2] at hc o2
      have hoM : Om n q2 (some z) := o2.m
      left
      refine ⟨z, nI (r_vn b p 5), w, p', f', o2.2 z rfl, ?_, fun N => ?_, fun M JM K x1 hM => ⟨q2, by have := o2.1; omega, ?_⟩⟩
      · have := (hc 0).2.2
        have ll0 : q_ll b n q2 (some z) 8 true = 0 := rfl
        rw [ll0, if_pos rfl, show q_bl (some z) q2 = some z from rfl, ex_some.1] at this
        rw [this]; exact o2.1
      · have ll0 : q_ll b n q2 (some z) 8 true = 0 := rfl
        have := (hc N).1
        rw [ll0, if_pos rfl, show q_bl (some z) q2 = some z from rfl, ex_some.2] at this
        exact this
      · rw [m113 M JM K x1 hM, he2]
        unfold F_Mo_nameHere
        rw [m_badS hoM hM, bd_s, if_neg (by decide), bd_s, m_needS (by decide) hoM hM, bd_s, m_badS hoM hM, bd_s, if_neg (by decide)]
    | none =>
      rw [he2] at hc o2
      have o2' : Ok n q2 none := o2
      generalize hll : q_ll b n q2 none 8 true = l at *
      have hl := q_ll_le (b := b) (n := n) (p := q2) (e := none) (most := 8) (od := true)
      rw [hll] at hl
      by_cases l0 : l = 0
      · left
        subst l0
        rw [if_pos rfl, show q_bl none q2 = some q2 from rfl, Nat.add_zero] at hc
        refine ⟨q2, nI (r_vn b p 5), w, p', f', o2.1, ?_, fun N => ?_, fun M JM K x1 hM => ?_⟩
        · have := (hc 0).2.2
          rw [ex_some.1] at this
          rw [this]; exact o2.1
        · have := (hc N).1
          rw [ex_some.2] at this
          exact this
        · obtain ⟨y, q, e', a1, a2, a3⟩ := m_nameN (u := u) (J := JM) (by omega) hbb hM o2.1
          rcases a3 with ⟨_, rfl⟩ | ⟨a3, _⟩
          · refine ⟨q, a2.1, ?_⟩
            rw [m113 M JM K x1 hM, he2, a1, bd_s, m_needS (by decide) a2 hM, bd_s, m_badS a2 hM, bd_s, if_neg (by decide)]
          · exact absurd hll a3
      · rw [if_neg l0] at hc
        have o3 : Ok n (q2 + l) none := Ok_0 (by have := o2.1; omega)
        have o4 := Ok_ex (b := b) (c := 10) o3
        cases he4 : q_exE b n (q2 + l) none 10 with
        | some z =>
          rw [he4] at hc o4
          left
          have hz : z = q2 + l := by
            unfold q_exE at he4
            split at he4
            · cases he4
            · cases he4; rfl
          refine ⟨z, nI (r_vn b p 5), w, p', f', o4.2 z rfl, by rw [(hc 0).2.2]; exact o4.1, fun N => (hc N).1, fun M JM K x1 hM => ?_⟩
          obtain ⟨y, q, e', a1, a2, a3⟩ := m_nameN (u := u) (J := JM) (by omega) hbb hM o2.1
          rw [hll] at a3
          rcases a3 with ⟨a3, _⟩ | ⟨_, a3, a4⟩
          · exact absurd a3 l0
          · cases e' with
            | none =>
              obtain ⟨b1, b2⟩ := a3 rfl
              subst b1
              refine ⟨q_exP b n (q2 + l) none 10, by have := o4.1; omega, ?_⟩
              rw [m113 M JM K x1 hM, he2, a1, bd_s, m_need (by decide) a2 hM, bd_s, he4, m_badS o4.m hM, bd_s, if_neg (by decide)]
            | some z2 =>
              obtain ⟨b1, b2, b3⟩ := a4 z2 rfl
              refine ⟨q, a2.1, ?_⟩
              rw [m113 M JM K x1 hM, he2, a1, bd_s, m_needS (by decide) a2 hM, bd_s, m_badS a2 hM, bd_s, if_neg (by decide), b1, hz]
        | none =>
          rw [he4] at hc o4
          right
          refine ⟨r_vn b p 5, w, p', f', hcd, by rw [(hc 0).2.2]; exact o4.1, fun N => (hc N).1, fun M JM K x1 hM => ?_⟩
          obtain ⟨y, q, e', a1, a2, a3⟩ := m_nameN (u := u) (J := JM) (by omega) hbb hM o2.1
          rw [hll] at a3
          rcases a3 with ⟨a3, _⟩ | ⟨_, a3, a4⟩
          · exact absurd a3 l0
          · cases e' with
            | none =>
              obtain ⟨b1, b2⟩ := a3 rfl
              subst b1
              rw [m113 M JM K x1 hM, he2, a1, bd_s, m_need (by decide) a2 hM, bd_s, he4, m_bad0 o4.m hM, bd_s, if_pos rfl, (hc 0).2.1, (hc 0).2.2, b2]
            | some z2 =>
              exfalso
              obtain ⟨b1, b2, b3⟩ := a4 z2 rfl
              unfold q_exE at he4
              split at he4
              · rename_i tk
                unfold q_tk at tk
                exact b3 (of_decide_eq_true tk).2.2
              · cases he4
  · have hoS : Ok n (p + g) (some (p + g)) := (Ok_0 d2).s d2
    obtain ⟨w, p', f', hc⟩ := cls _ _ _ _ hoS d3
    have ll0 : q_ll b n (p + g) (some (p + g)) 8 true = 0 := rfl
    rw [ex_some.1, ex_some.2, ll0, if_pos rfl, show q_bl (some (p + g)) (p + g) = some (p + g) from rfl, Nat.add_zero, ex_some.1, ex_some.2] at hc
    left
    refine ⟨p + g, v, w, p', f', d2, by rw [(hc 0).2.2]; exact d2, fun N => (hc N).1, fun M JM K x1 hM => ⟨p + g + 1, by omega, ?_⟩⟩
    obtain ⟨x2, hx⟩ := d4 M JM K x1 hM
    have hoM : Om n (p + g + 1) (some (p + g)) := ⟨by omega, (fun z => by cases z), fun x hx => by cases hx; exact d2⟩
    rw [hx]
    unfold F_Mo_letters_113 F_Mo_nameHere
    rw [m_needS (by decide) hoM hM, bd_s, m_badS hoM hM, bd_s, if_neg (by decide), bd_s, m_needS (by decide) hoM hM, bd_s, m_badS hoM hM, bd_s, if_neg (by decide)]
end Line
