/-! ===== the model's reader ===== -/
def Om (n p : Nat) (e : Option Nat) : Prop := p ≤ n + 1 ∧ (e = none → p ≤ n) ∧ ∀ x, e = some x → x ≤ n
theorem Ok.m {n p : Nat} {e : Option Nat} (h : Ok n p e) : Om n p e := ⟨by have := h.1; omega, fun _ => h.1, h.2⟩
theorem Om.k {n p : Nat} {e : Option Nat} (h : Om n p e) (he : e = none) : Ok n p e := ⟨h.2.1 he, h.2.2⟩
theorem Om.x {n p : Nat} {e : Option Nat} (h : Om n p e) (hn : n ≤ 1600) : ∀ x, e = some x → x < 2 ^ 31 := fun x hx => by
  have := h.2.2 x hx; omega
def h_re (b : Nat → Int32) (n p : Nat) : Int32 := if p < n then b p else -1
theorem h_re_q {b : Nat → Int32} {n p : Nat} : h_re b n p = q_nx b n p none := by
  unfold h_re q_nx; simp
section ModelReader
variable {u : Nat} {I : pm_II} {J : pm_JJ} {b : Nat → Int32} {n p : Nat} {e : Option Nat} {lo hi : Int32}
theorem m_isDigit {x : Int32} : F_Mo_isDigit u x I J = some (b2i (decide (48 ≤ x ∧ x ≤ 57)), I, J) := t_isDigit (u := u)
theorem m_isSmall {x : Int32} : F_Mo_isSmall u x I J = some (b2i (decide (97 ≤ x ∧ x ≤ 122)), I, J) := t_isLetter (u := u)
theorem m_is {x : Int32} : F_Mo_is u x lo hi I J = some (b2i (decide (lo ≤ x ∧ x ≤ hi)), I, J) := by
  unfold F_Mo_is
  by_cases h1 : x < lo
  · rw [if_pos h1]
    have : ¬ (lo ≤ x ∧ x ≤ hi) := fun q => absurd h1 (Int32.not_lt.mpr q.1)
    simp [this, b2i]
  · rw [if_neg h1]
    by_cases h2 : hi < x
    · rw [if_pos h2]
      have : ¬ (lo ≤ x ∧ x ≤ hi) := fun q => absurd h2 (Int32.not_lt.mpr q.2)
      simp [this, b2i]
    · rw [if_neg h2]
      have : (lo ≤ x ∧ x ≤ hi) := ⟨Int32.not_lt.mp h1, Int32.not_lt.mp h2⟩
      simp [this, b2i]
theorem m_bad (ho : Om n p e) (hb : Mb b n I) : F_Mo_bad u (mc I p e) J = some (b2i (decide (e ≠ none)), mc I p e, J) := by
  unfold F_Mo_bad
  have h : (mc I p e) 120 5 = er e := rfl
  rw [h]
  simp only [er_neg (ho.x hb.2.2)]
  cases e <;> rfl
theorem m_here (ho : Om n p e) (hb : Mb b n I) : F_Mo_here u (mc I p e) J = some (h_re b n p, mc I p e, J) := by
  unfold F_Mo_here
  have h1 : (mc I p e) 120 3 = I 120 3 := rfl
  have h2 : (mc I p e) 120 4 = nI p := rfl
  have h3 : (mc I p e) 122 = I 122 := rfl
  have hn := hb.2.2
  have hp := ho.1
  rw [h1, h2, h3, hb.2.1]
  simp (disch := omega) only [nI_leI, nI_clamp, vq_nI]
  unfold h_re
  by_cases hc : p < n
  · rw [if_neg (by omega), hb.1 p hc, if_pos hc]
    have : p < 1600 := by omega
    simp [this]
  · rw [if_pos (by omega), if_neg hc]
theorem m_fail {x : Nat} (ho : Om n p e) (hb : Mb b n I) : F_Mo_fail u (nI x) (mc I p e) J = some ((), mc I p (q_bl e x), J) := by
  unfold F_Mo_fail
  have h : (mc I p e) 120 5 = er e := rfl
  rw [h, M2_w]
  have := er_neg (ho.x hb.2.2)
  cases e with
  | none => rfl
  | some y =>
    rw [if_pos (by rw [← Int32.not_lt, this]; simp)]; rfl
theorem m_need {c : Int32} (hc : ¬ c = -1) (ho : Om n p e) (hb : Mb b n I) : F_Mo_need u c (mc I p e) J = some ((), mc I (q_exP b n p e c) (q_exE b n p e c), J) := by
  unfold F_Mo_need
  rw [m_bad ho hb, bd_s, m_here ho hb, bd_s]
  have h2 : (mc I p e) 120 4 = nI p := rfl
  rw [h2, m_fail ho hb, bd_s, M2_a, nI_1]
  unfold q_exP q_exE q_tk F_Mo_need_37
  cases e with
  | none =>
    rw [if_pos (by decide)]
    by_cases h : p < n ∧ b p = c
    · have e1 : h_re b n p = c := by unfold h_re; rw [if_pos h.1]; exact h.2
      rw [if_neg (fun q => q e1)]
      simp [h]
    · have e1 : ¬ h_re b n p = c := by
        unfold h_re
        by_cases h5 : p < n
        · rw [if_pos h5]; exact fun q => h ⟨h5, q⟩
        · rw [if_neg h5]; exact fun q => hc q.symm
      rw [if_pos e1]
      simp [h]
  | some x =>
    rw [if_neg (by simp [b2i])]
    simp [q_bl]
theorem Om_ex {c : Int32} (ho : Om n p e) : Om n (q_exP b n p e c) (q_exE b n p e c) := by
  cases e with
  | none => exact (Ok_ex (ho.k rfl)).m
  | some x =>
    have h1 : q_exP b n p (some x) c = p := by simp [q_exP, q_tk]
    have h2 : q_exE b n p (some x) c = some x := by simp [q_exE, q_tk, q_bl]
    rw [h1, h2]; exact ho
theorem m_told121 {v x : Nat} (ho : Om n p e) (hb : Mb b n I) : F_Mo_told_121 u lo hi (nI x) (nI v) (mc I p e) J = some (nI v, mc I p (if lo ≤ nI v ∧ nI v ≤ hi then e else q_bl e x), J) := by
  unfold F_Mo_told_121
  rw [m_bad ho hb, bd_s, m_is, bd_s, m_fail ho hb, bd_s]
  unfold F_Mo_told_143
  cases e with
  | none =>
    rw [if_neg (by decide)]
    by_cases h : lo ≤ nI v ∧ nI v ≤ hi
    · rw [if_pos (by simp [h, b2i]), if_pos h]
    · rw [if_neg (by simp [h, b2i]), if_neg h]
  | some y =>
    rw [if_pos (by simp [b2i])]
    simp [q_bl]
theorem m_told35e {x v fx : Nat} {N : Nat} (ho : Om n p (some x)) (hb : Mb b n I) : F_Mo_told_35 u (N + 1) lo hi (nI fx) (nI v) (mc I p (some x)) J = some (nI v, mc I p (some x), J) := by
  rw [F_Mo_told_35, m_bad ho hb, bd_s, if_pos (by simp [b2i]), m_told121 ho hb]
  simp [q_bl]
theorem m_told35 (hp : p ≤ n) (hb : Mb b n I) (h0 : ¬ q_dd b n p none = 0) : ∀ (m N d : Nat), d + m = q_dd b n p none → m + 2 ≤ N → F_Mo_told_35 u N lo hi (nI p) (nI (r_vn b p d)) (mc I (p + d) none) J = some (nI (q_nmV b n p none), mc I (p + q_dd b n p none) (q_nmE b n p none lo hi), J) := by
  intro m
  have h2 := q_dd_le (b := b) (n := n) (p := p)
  have hl := r_dl_le b (n - p) p
  have hn := hb.2.2
  induction m with
  | zero =>
    intro N d hd hN
    obtain ⟨N, rfl⟩ : ∃ k, N = k + 2 := ⟨N - 2, by omega⟩
    have hd : d = q_dd b n p none := by omega
    have ho : Om n (p + d) none := Ok.m ⟨by omega, fun x hx => by cases hx⟩
    have hx := r_dl_next (b := b) hp (show d ≤ r_dl b (n - p) p by omega)
    have hv : q_nmV b n p none = r_vn b p d := by rw [hd]; rfl
    have h4 : (mc I (p + d) none) 120 4 = nI (p + d) := rfl
    have h122 : (mc I (p + d) none) 122 = I 122 := rfl
    rw [F_Mo_told_35, m_bad ho hb, bd_s, if_neg (by decide), m_here ho hb, bd_s, m_isDigit, bd_s, h_re_q, h4, h122]
    simp (disch := omega) only [b2i_0, decide_eq_false_iff_not, hx, nI_leI, nI_clamp, vq_nI, nI_sub2]
    rw [m_fail ho hb, bd_s]
    unfold q_nmE
    dsimp only
    rw [if_neg h0, hv, ← hd]
    by_cases c2 : d < r_dl b (n - p) p
    · have ho2 : Om n (p + d) (some (p + d)) := Ok.m ⟨by omega, fun x hx => by cases hx; omega⟩
      have := m_told35e (u := u) (J := J) (lo := lo) (hi := hi) (fx := p) (v := r_vn b p d) (N := N) ho2 hb
      have e1 : mc I (p + d) (q_bl none (p + d)) = mc I (p + d) (some (p + d)) := rfl
      rw [if_neg (by simpa using c2), if_pos c2, e1, this, show p + d - p = d by omega]
      by_cases c6 : nI d = 6
      · rw [if_pos c6]
      · rw [if_neg c6, if_neg (by omega)]
        have hne : ¬ d = 6 := fun q => c6 (by rw [q]; rfl)
        have := dd_end (b := b) (n := n) (p := p) (by omega) (by omega) (by omega)
        have hpn : p < n := by omega
        rw [hb.1 p hpn]
        rw [if_neg (fun q => q this.2)]
        have : p < 1600 := by omega
        simp [this]
    · rw [if_pos c2, if_neg c2, m_told121 ho hb]
      rfl
  | succ m ih =>
    intro N d hd hN
    obtain ⟨N, rfl⟩ : ∃ k, N = k + 1 := ⟨N - 1, by omega⟩
    have hs := dd_step (b := b) (n := n) (p := p) (d := d) (by omega)
    have ho : Om n (p + d) none := Ok.m ⟨by omega, fun x hx => by cases hx⟩
    have hx := r_dl_next (b := b) hp (show d ≤ r_dl b (n - p) p by omega)
    have hdn := dig_nI (r_dl_dig b _ _ d hs.1)
    have hq : h_re b n (p + d) = nI (48 + dgt b (p + d)) := by
      unfold h_re
      rw [if_pos (by omega)]; exact hdn.1
    have hv : r_vn b p (d + 1) = r_vn b p d * 10 + dgt b (p + d) := rfl
    have h4 : (mc I (p + d) none) 120 4 = nI (p + d) := rfl
    have h122 : (mc I (p + d) none) 122 = I 122 := rfl
    have := ih N (d + 1) (by omega) (by omega)
    rw [F_Mo_told_35, m_bad ho hb, bd_s, if_neg (by decide), m_here ho hb, bd_s, m_isDigit, bd_s, h_re_q, h4, h122]
    simp (disch := omega) only [b2i_0, decide_eq_false_iff_not, hx, nI_leI, nI_clamp, vq_nI, nI_sub2]
    have hpn : p < n := by omega
    rw [if_neg (by simpa using hs.1), show p + d - p = d by omega, m_here ho hb, bd_s, h4, M2_a, nI_1, hq, nI_step2, ← hv, hb.1 p hpn]
    rw [show p + d + 1 = p + (d + 1) by omega, this]
    rw [if_neg (by rw [nl_6, nI_eq (by omega) (by omega)]; omega)]
    by_cases c0 : p + d ≤ p
    · rw [if_pos c0]
    · rw [if_neg c0, if_pos (hs.2.2.2 (by omega))]
      have : p < 1600 := by omega
      simp [this]
/-- told -/
theorem m_told (hu : 10 ≤ u) (ho : Om n p e) (hb : Mb b n I) : F_Mo_told u lo hi (mc I p e) J = some (nI (q_nmV b n p e), mc I (p + q_dd b n p e) (q_nmE b n p e lo hi), J) := by
  unfold F_Mo_told
  have h4 : (mc I p e) 120 4 = nI p := rfl
  rw [m_bad ho hb, bd_s, m_here ho hb, bd_s, m_isDigit, bd_s, h4]
  cases e with
  | some x =>
    rw [if_neg (by simp [b2i])]
    rfl
  | none =>
    rw [if_pos (by decide)]
    have hok := ho.k rfl
    have hx := r_dl_next (b := b) (d := 0) hok.1 (Nat.zero_le _)
    rw [Nat.add_zero] at hx
    rw [h_re_q]
    simp only [b2i_0, decide_eq_false_iff_not, hx]
    have h2 := q_dd_le (b := b) (n := n) (p := p)
    by_cases h0 : q_dd b n p none = 0
    · have hz : r_dl b (n - p) p = 0 := by
        rcases Nat.eq_zero_or_pos (r_dl b (n - p) p) with q | q
        · exact q
        · exfalso
          unfold q_dd at h0
          dsimp only at h0
          rw [if_neg (by omega)] at h0
          split at h0 <;> omega
      rw [if_neg (by omega), m_fail ho hb, bd_s]
      obtain ⟨N, hN⟩ : ∃ k, u = k + 1 := ⟨u - 1, by omega⟩
      have ho2 : Om n p (some p) := Ok.m ⟨hok.1, fun x hx => by cases hx; exact hok.1⟩
      have := m_told35e (u := u) (J := J) (lo := lo) (hi := hi) (fx := p) (v := 0) (N := N) ho2 hb
      rw [← hN] at this
      show F_Mo_told_35 u u lo hi (nI p) (nI 0) (mc I p (some p)) J = _
      rw [this]
      unfold q_nmE q_nmV
      dsimp only
      rw [h0, if_pos rfl]
      rfl
    · have := m_told35 (u := u) (J := J) (lo := lo) (hi := hi) hok.1 hb h0 (q_dd b n p none) u 0 (by omega) (by omega)
      rw [if_pos (by omega)]
      exact this
theorem Om_nm (ho : Om n p e) : Om n (p + q_dd b n p e) (q_nmE b n p e lo hi) := by
  cases e with
  | none => exact (Ok_nm (ho.k rfl)).m
  | some x => exact ho
theorem m_behind (hu : 10 ≤ u) (ho : Om n p e) (hb : Mb b n I) : F_Mo_behind u lo hi (mc I p e) J = some (nI (q_nmV b n (q_exP b n p e 32) (q_exE b n p e 32)), mc I (q_exP b n p e 32 + q_dd b n (q_exP b n p e 32) (q_exE b n p e 32)) (q_nmE b n (q_exP b n p e 32) (q_exE b n p e 32) lo hi), J) := by
  unfold F_Mo_behind
  rw [m_need (by decide) ho hb, bd_s, m_told hu (Om_ex ho) hb, bd_s]
end ModelReader
