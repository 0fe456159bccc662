def ebr (i : Instr) (st : List Value) : Option (Bool × List Value) := match i, st with
  | .ifCond .eq _, .int x :: r => some (decide (x = 0), r)
  | .ifCond .ne _, .int x :: r => some (decide (¬ x = 0), r)
  | .ifCond .lt _, .int x :: r => some (decide (x < 0), r)
  | .ifCond .ge _, .int x :: r => some (decide (0 ≤ x), r)
  | .ifCond .gt _, .int x :: r => some (decide (0 < x), r)
  | .ifCond .le _, .int x :: r => some (decide (x ≤ 0), r)
  | .if_icmp .eq _, .int y :: .int x :: r => some (decide (x = y), r)
  | .if_icmp .ne _, .int y :: .int x :: r => some (decide (¬ x = y), r)
  | .if_icmp .lt _, .int y :: .int x :: r => some (decide (x < y), r)
  | .if_icmp .ge _, .int y :: .int x :: r => some (decide (y ≤ x), r)
  | .if_icmp .gt _, .int y :: .int x :: r => some (decide (y < x), r)
  | .if_icmp .le _, .int y :: .int x :: r => some (decide (x ≤ y), r)
  | _, _ => none
theorem ebr_br {i : Instr} {st st' : List Value} {b : Bool} (h : ebr i st = some (b, st')) : ∃ c : Prop, pm_br i st = some (c, st') ∧ (b = true ↔ c) := by
  unfold ebr at h
  split at h
  · cases h; exact ⟨_, rfl, decide_eq_true_iff⟩
  · cases h; exact ⟨_, rfl, decide_eq_true_iff⟩
  · cases h; exact ⟨_, rfl, decide_eq_true_iff⟩
  · cases h; exact ⟨_, rfl, decide_eq_true_iff⟩
  · cases h; exact ⟨_, rfl, decide_eq_true_iff⟩
  · cases h; exact ⟨_, rfl, decide_eq_true_iff⟩
  · cases h; exact ⟨_, rfl, decide_eq_true_iff⟩
  · cases h; exact ⟨_, rfl, decide_eq_true_iff⟩
  · cases h; exact ⟨_, rfl, decide_eq_true_iff⟩
  · cases h; exact ⟨_, rfl, decide_eq_true_iff⟩
  · cases h; exact ⟨_, rfl, decide_eq_true_iff⟩
  · cases h; exact ⟨_, rfl, decide_eq_true_iff⟩
  · cases h
abbrev EC : Type := Nat × List Value × List Value × EH
/-- stack, loads, stores, branches -/
def ev0 (i : Instr) (len t pc : Nat) (L st : List Value) (h : EH) : Option EC := match pm_stk i st with
  | some st' => some (pc + len, L, st', h)
  | none => match pm_ld i L with
    | some v => some (pc + len, L, v :: st, h)
    | none => match pm_sto i st L with
      | some (st', L') => some (pc + len, L', st', h)
      | none => match ebr i st with
        | some (b, st') => some (cond b t (pc + len), L, st', h)
        | none => none
def eI (t : Nat) (x : Int32) : Bool := Nat.beq t 0 || (Nat.beq t 3 && (decide (x = 0) || decide (x = 1)))
theorem eI_1 {t : Nat} {x : Int32} (h : eI t x = true) : (t = 0 ∨ t = 3) ∧ pm_b01 t x := by
  unfold eI at h
  rcases Bool.or_eq_true_iff.mp h with g | g
  · have := Nat.eq_of_beq_eq_true g
    subst this
    exact ⟨Or.inl rfl, fun z => absurd z (by decide)⟩
  · obtain ⟨g1, g2⟩ := Bool.and_eq_true_iff.mp g
    have := Nat.eq_of_beq_eq_true g1
    subst this
    refine ⟨Or.inr rfl, fun _ => ?_⟩
    rcases Bool.or_eq_true_iff.mp g2 with g | g
    · exact Or.inl (of_decide_eq_true g)
    · exact Or.inr (of_decide_eq_true g)
def eob (a ci : Nat) (h : EH) : Bool := Nat.beq (pm_sh a).1 ci && (Nat.ble 16 a && Nat.blt a h.1)
theorem eob_1 {a ci : Nat} {h : EH} (e : eob a ci h = true) : (pm_sh a).1 = ci ∧ 16 ≤ a ∧ a < h.1 := by
  unfold eob at e
  obtain ⟨g1, g⟩ := Bool.and_eq_true_iff.mp e
  obtain ⟨g2, g3⟩ := Bool.and_eq_true_iff.mp g
  exact ⟨Nat.eq_of_beq_eq_true g1, Nat.le_of_ble_eq_true g2, Nat.le_of_ble_eq_true g3⟩
def enew (h : EH) : Bool := Nat.ble 16 h.1 && (zI h.2.1 h.1 && zR h.2.2 h.1)
theorem enew_1 {h : EH} (e : enew h = true) : 16 ≤ h.1 ∧ zI h.2.1 h.1 = true ∧ zR h.2.2 h.1 = true := by
  unfold enew at e
  obtain ⟨g1, g⟩ := Bool.and_eq_true_iff.mp e
  obtain ⟨g2, g3⟩ := Bool.and_eq_true_iff.mp g
  exact ⟨Nat.le_of_ble_eq_true g1, g2, g3⟩
def eaty (at' : ArrayType) (n : Nat) : Bool := match at' with
  | .int => Nat.beq n 100
  | .boolean => Nat.beq n 101
  | .long => Nat.beq n 102
  | _ => false
theorem eaty_1 {at' : ArrayType} {n : Nat} (h : eaty at' n = true) : (at' = .int ∧ n = 100) ∨ (at' = .boolean ∧ n = 101) ∨ (at' = .long ∧ n = 102) := by
  unfold eaty at h
  split at h
  · exact Or.inl ⟨rfl, Nat.eq_of_beq_eq_true h⟩
  · exact Or.inr (Or.inl ⟨rfl, Nat.eq_of_beq_eq_true h⟩)
  · exact Or.inr (Or.inr ⟨rfl, Nat.eq_of_beq_eq_true h⟩)
  · cases h
def ev1 (Y : pm_M) (i : Instr) (len t f ty pc : Nat) (L st : List Value) (h : EH) : Option EC := match i, st with
  | .getfield _, .ref a :: r => if eob a t h = true then (if ty = 0 ∨ ty = 3 then some (pc + len, L, .int (lkI h.2.1 a f) :: r, h) else if ty = 2 then some (pc + len, L, lkR h.2.2 a f :: r, h) else none) else none
  | .putfield _, .int x :: .ref a :: r => if eob a t h = true ∧ eI ty x = true ∧ (pm_cT t f).2.2.2 = false then some (pc + len, L, r, (h.1, (a, f, x) :: h.2.1, h.2.2)) else none
  | .putfield _, .ref b :: .ref a :: r => if eob a t h = true ∧ ty = 2 ∧ ((pm_cT t f).2.2.2 = true → pm_kd Y = 2 ∧ pm_oc Y = t) then some (pc + len, L, r, (h.1, h.2.1, (a, f, b) :: h.2.2)) else none
  | .iaload, .int j :: .ref a :: r => if eob a 100 h = true ∧ vq j (pm_sh a).2 = true then some (pc + len, L, .int (lkI h.2.1 a j.toNatClampNeg) :: r, h) else if (a = 1 ∨ a = 2) ∧ vq j (pm_sh a).2 = true then some (pc + len, L, .int (pm_con a j.toNatClampNeg) :: r, h) else none
  | .iastore, .int v :: .int j :: .ref a :: r => if eob a 100 h = true ∧ vq j (pm_sh a).2 = true then some (pc + len, L, r, (h.1, (a, j.toNatClampNeg, v) :: h.2.1, h.2.2)) else none
  | .bastore, .int v :: .int j :: .ref a :: r => if eob a 101 h = true ∧ vq j (pm_sh a).2 = true ∧ (v = 0 ∨ v = 1) then some (pc + len, L, r, (h.1, (a, j.toNatClampNeg, v) :: h.2.1, h.2.2)) else none
  | .aastore, .ref b :: .int j :: .ref a :: r => if eob a 103 h = true ∧ vq j (pm_sh a).2 = true ∧ eob b 8 h = true then some (pc + len, L, r, (h.1, h.2.1, (a, j.toNatClampNeg, b) :: h.2.2)) else none
  | .getstatic _, r => some (pc + len, L, .ref t :: r, h)
  | .new _, r => if enew h = true ∧ pm_sh h.1 = (t, pm_cN t) then some (pc + len, L, .ref h.1 :: r, (h.1 + 1, h.2.1, h.2.2)) else none
  | .newarray at', .int v :: r => if enew h = true ∧ eaty at' (pm_sh h.1).1 = true ∧ v = Int32.ofNat (pm_sh h.1).2 ∧ (pm_sh h.1).2 ≤ 60000 then some (pc + len, L, .ref h.1 :: r, (h.1 + 1, h.2.1, h.2.2)) else none
  | .anewarray idx, .int v :: r => if enew h = true ∧ (pm_oc Y = 9 ∧ idx = 36) ∧ (pm_sh h.1).1 = 103 ∧ v = Int32.ofNat (pm_sh h.1).2 ∧ (pm_sh h.1).2 ≤ 60000 then some (pc + len, L, .ref h.1 :: r, (h.1 + 1, h.2.1, h.2.2)) else none
  | .goto _, r => some (t, L, r, h)
  | .idiv, .int w :: .int v :: r => if w = 0 then none else some (pc + len, L, .int (v / w) :: r, h)
  | .irem, .int w :: .int v :: r => if w = 0 then none else some (pc + len, L, .int (v - v / w * w) :: r, h)
  | .invokespecial _, .ref _ :: r => if t = 1003 ∧ pm_cats r ≤ 8 then some (pc + 3, L, r, h) else none
  | .invokestatic _, .int n :: .int dp :: .ref b :: .int sp :: .ref a :: r => if t = 1002 ∧ (eob a 100 h = true ∧ eob b 100 h = true ∧ a ≠ b) ∧ (n = Int32.ofNat n.toNatClampNeg ∧ dp = Int32.ofNat dp.toNatClampNeg ∧ sp = Int32.ofNat sp.toNatClampNeg) ∧ sp.toNatClampNeg + n.toNatClampNeg ≤ (pm_sh a).2 ∧ dp.toNatClampNeg + n.toNatClampNeg ≤ (pm_sh b).2 ∧ (pm_sh a).2 ≤ 60000 ∧ (pm_sh b).2 ≤ 60000 ∧ pm_cats r ≤ 8 then some (pc + 3, L, r, (h.1, cpE h.2.1 a sp.toNatClampNeg b dp.toNatClampNeg n.toNatClampNeg, h.2.2)) else none
  | i, st => ev0 i len t pc L st h
section EOk
variable {xs : Nat → Int32} {nn k N : Nat} {Y : pm_M} {pc : Nat} {L st : List Value} {h : EH} {Q : Option Value → pm_H → Prop}
def eok (xs : Nat → Int32) (nn k : Nat) (Y : pm_M) (pc : Nat) (L st : List Value) (h : EH) (c : EC) : Prop := h.1 ≤ c.2.2.2.1 ∧ ∀ N Q, c.2.2.2.1 ≤ N → Px k N Y c.1 c.2.1 c.2.2.1 (ab xs nn c.2.2.2) Q → Px k N Y pc L st (ab xs nn h) Q
theorem ev0_ok {i : Instr} {len t f ty : Nat} {c : EC} (hi : pm_ins Y pc = some (i, len, t, f, ty)) (e : ev0 i len t pc L st h = some c) : eok xs nn k Y pc L st h c := by
  unfold ev0 at e
  split at e
  · rename_i st' hs
    cases e
    exact ⟨Nat.le_refl _, fun N Q _ kk => x_s _ hi hs rfl kk⟩
  · split at e
    · rename_i v hs
      cases e
      exact ⟨Nat.le_refl _, fun N Q _ kk => x_l _ hi hs rfl kk⟩
    · split at e
      · rename_i st' L' hs
        cases e
        exact ⟨Nat.le_refl _, fun N Q _ kk => x_t _ hi hs rfl kk⟩
      · split at e
        · rename_i b st' hs
          cases e
          refine ⟨Nat.le_refl _, fun N Q _ kk => ?_⟩
          obtain ⟨p, hp, hb⟩ := ebr_br hs
          refine x_b _ hi hp rfl (fun z => ?_) (fun z => ?_)
          · rw [hb.mpr z] at kk; exact kk
          · cases b with
            | true => exact absurd (hb.mp rfl) z
            | false => exact kk
        · cases e
theorem ev1_ok {i : Instr} {len t f ty : Nat} {c : EC} (hk : 2 ≤ k) (hi : pm_ins Y pc = some (i, len, t, f, ty)) (e : ev1 Y i len t f ty pc L st h = some c) : eok xs nn k Y pc L st h c := by
  unfold ev1 at e
  split at e
  · -- getfield
    split at e
    · rename_i idx a r ho
      obtain ⟨o1, o2, o3⟩ := eob_1 ho
      split at e
      · rename_i ht
        cases e
        refine ⟨Nat.le_refl _, fun N Q _ kk => x_gf _ hi o1 o2 o3 rfl ?_ kk⟩
        rcases ht with rfl | rfl
        · exact congrArg Value.int (abI_hi o2 f)
        · exact congrArg Value.int (abI_hi o2 f)
      · split at e
        · rename_i ht
          cases e
          subst ht
          exact ⟨Nat.le_refl _, fun N Q _ kk => x_gf _ hi o1 o2 o3 rfl rfl kk⟩
        · cases e
    · cases e
  · -- putfield, int
    split at e
    · rename_i idx x a r ho
      obtain ⟨o, o4, o5⟩ := ho
      obtain ⟨o1, o2, o3⟩ := eob_1 o
      obtain ⟨o6, o7⟩ := eI_1 o4
      cases e
      exact ⟨Nat.le_refl _, fun N Q _ kk => x_pi _ hi o6 o5 o7 o1 o2 o3 rfl (by rw [ab_wI o2]; exact kk)⟩
    · cases e
  · -- putfield, reference
    split at e
    · rename_i idx b a r ho
      obtain ⟨o, o4, o5⟩ := ho
      obtain ⟨o1, o2, o3⟩ := eob_1 o
      subst o4
      cases e
      exact ⟨Nat.le_refl _, fun N Q _ kk => x_pr _ hi o1 o2 o3 o5 rfl (by rw [ab_wR]; exact kk)⟩
    · cases e
  · -- iaload
    split at e
    · rename_i j a r ho
      obtain ⟨o, o4⟩ := ho
      obtain ⟨o1, o2, o3⟩ := eob_1 o
      cases e
      exact ⟨Nat.le_refl _, fun N Q _ kk => x_il _ hi o1 o2 o3 (vq_in o4) rfl (by rw [show (ab xs nn h).2.1 a _ = _ from abI_hi o2 _]; exact kk)⟩
    · split at e
      · rename_i j a r _ ho
        cases e
        exact ⟨Nat.le_refl _, fun N Q _ kk => x_cl _ hi ho.1 (vq_in ho.2) rfl kk⟩
      · cases e
  · -- iastore
    split at e
    · rename_i v j a r ho
      obtain ⟨o, o4⟩ := ho
      obtain ⟨o1, o2, o3⟩ := eob_1 o
      cases e
      exact ⟨Nat.le_refl _, fun N Q _ kk => x_is _ hi o1 o2 o3 (vq_in o4) rfl (by rw [ab_wI o2]; exact kk)⟩
    · cases e
  · -- bastore
    split at e
    · rename_i v j a r ho
      obtain ⟨o, o4, o5⟩ := ho
      obtain ⟨o1, o2, o3⟩ := eob_1 o
      cases e
      exact ⟨Nat.le_refl _, fun N Q _ kk => x_zs _ hi o1 o2 o3 (vq_in o4) o5 rfl (by rw [ab_wI o2]; exact kk)⟩
    · cases e
  · -- aastore
    split at e
    · rename_i b j a r ho
      obtain ⟨o, o4, o5⟩ := ho
      obtain ⟨o1, o2, o3⟩ := eob_1 o
      obtain ⟨b1, b2, b3⟩ := eob_1 o5
      cases e
      exact ⟨Nat.le_refl _, fun N Q _ kk => x_rs _ hi o1 o2 o3 (vq_in o4) b1 b2 b3 rfl (by rw [ab_wR]; exact kk)⟩
    · cases e
  · -- getstatic
    cases e
    exact ⟨Nat.le_refl _, fun N Q _ kk => x_gs _ hi rfl kk⟩
  · -- new
    split at e
    · rename_i idx r ho
      obtain ⟨o, o4⟩ := ho
      obtain ⟨o1, o2, o3⟩ := enew_1 o
      cases e
      exact ⟨Nat.le_succ _, fun N Q hN kk => x_nw _ hi o4 o1 hN rfl (by rw [ab_z o1 o2 o3]; exact kk)⟩
    · cases e
  · -- newarray
    split at e
    · rename_i a' v r ho
      obtain ⟨o, o4, o5, o6⟩ := ho
      obtain ⟨o1, o2, o3⟩ := enew_1 o
      cases e
      exact ⟨Nat.le_succ _, fun N Q hN kk => x_na _ hi (eaty_1 o4) o5 o6 o1 hN rfl (by rw [ab_z o1 o2 o3]; exact kk)⟩
    · cases e
  · -- anewarray
    split at e
    · rename_i idx v r ho
      obtain ⟨o, o7, o4, o5, o6⟩ := ho
      obtain ⟨o1, o2, o3⟩ := enew_1 o
      cases e
      exact ⟨Nat.le_succ _, fun N Q hN kk => x_an _ hi o7 o4 o5 o6 o1 hN rfl (by rw [ab_z o1 o2 o3]; exact kk)⟩
    · cases e
  · -- goto
    cases e
    exact ⟨Nat.le_refl _, fun N Q _ kk => x_g hi kk⟩
  · -- idiv
    split at e
    · cases e
    · rename_i w v r ho
      cases e
      exact ⟨Nat.le_refl _, fun N Q _ kk => x_dv _ hi ho rfl kk⟩
  · -- irem
    split at e
    · cases e
    · rename_i w v r ho
      cases e
      exact ⟨Nat.le_refl _, fun N Q _ kk => x_rm _ hi ho rfl kk⟩
  · -- Object's
    split at e
    · rename_i idx b r ho
      obtain ⟨o1, o2⟩ := ho
      subst o1
      cases e
      exact ⟨Nat.le_refl _, fun N Q _ kk => x_oi _ hi o2 (by omega) rfl kk⟩
    · cases e
  · -- arraycopy
    split at e
    · rename_i idx n dp b sp a r ho
      obtain ⟨o1, ⟨oa, ob, oab⟩, ⟨q1, q2, q3⟩, o4, o5, o6, o7, o8⟩ := ho
      obtain ⟨a1, a2, a3⟩ := eob_1 oa
      obtain ⟨b1, b2, b3⟩ := eob_1 ob
      subst o1
      cases e
      refine ⟨Nat.le_refl _, fun N Q _ kk => ?_⟩
      rw [q1, q2, q3]
      exact x_cp _ hi a1 b1 a2 a3 b2 b3 oab o4 o5 o6 o7 o8 hk rfl (by rw [ab_cp a2 b2]; exact kk)
    · cases e
  · exact ev0_ok hi e
end EOk
