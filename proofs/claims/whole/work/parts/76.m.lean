/-! ===== folding: the whole sheet folded once ===== -/
def ngr (cr : Bool) (gr : Nat) : Nat := cond cr gr (gr / 2)
def ngc (cr : Bool) (gc : Nat) : Nat := cond cr (gc / 2) gc
def okf (cr : Bool) (gr gc : Nat) : Prop := (cr = true → gc = 2 * (gc / 2) ∧ 1 ≤ gc / 2) ∧ (cr = false → gr = 2 * (gr / 2) ∧ 1 ≤ gr / 2)
def stc (cr lo : Bool) (gr gc r c : Nat) : Nat := (r + cond (!cr && lo) (gr / 2) 0) * gc + (c + cond (cr && lo) (gc / 2) 0)
def cmc (cr lo : Bool) (gr gc r c : Nat) : Nat := cond cr ((r + cond (!cr && lo) (gr / 2) 0) * gc + (gc - 1 - (c + cond (cr && lo) (gc / 2) 0))) ((gr - 1 - (r + cond (!cr && lo) (gr / 2) 0)) * gc + (c + cond (cr && lo) (gc / 2) 0))
section FO
variable {u N gr gc h : Nat} {J : pm_JJ} {S : Nat → PN} {cr lo : Bool}
theorem fs_lt {s : PN} (ho : okf cr gr gc) (h1 : s.1 < gr) (h2 : s.2.1 < gc) (h3 : s.2.2.1 < h) : (fstep cr lo gr gc h s).1 < ngr cr gr ∧ (fstep cr lo gr gc h s).2.1 < ngc cr gc ∧ (fstep cr lo gr gc h s).2.2.1 < 2 * h := by
  unfold fstep ngr ngc
  cases cr
  · have q := ho.2 rfl
    have := (mv_facts (lo := lo) (half := gr / 2) (a := s.1) (by omega)).1
    refine ⟨this, h2, ?_⟩
    simp only [cond_false]
    cases mvb lo (gr / 2) s.1 <;> simp <;> omega
  · have q := ho.1 rfl
    have := (mv_facts (lo := lo) (half := gc / 2) (a := s.2.1) (by omega)).1
    refine ⟨h1, this, ?_⟩
    simp only [cond_true]
    cases mvb lo (gc / 2) s.2.1 <;> simp <;> omega
theorem fs_cell {s : PN} (ho : okf cr gr gc) (h1 : s.1 < gr) (h2 : s.2.1 < gc) : (fmvv cr lo gr gc s = true → s.1 * gc + s.2.1 = cmc cr lo gr gc (fstep cr lo gr gc h s).1 (fstep cr lo gr gc h s).2.1) ∧ (fmvv cr lo gr gc s = false → s.1 * gc + s.2.1 = stc cr lo gr gc (fstep cr lo gr gc h s).1 (fstep cr lo gr gc h s).2.1) := by
  unfold fmvv fstep cmc stc
  cases cr
  · have q := ho.2 rfl
    obtain ⟨m1, m2, m3⟩ := mv_facts (lo := lo) (half := gr / 2) (a := s.1) (by omega)
    simp only [cond_false, Bool.not_false, Bool.true_and, Bool.false_and, cond_false, Nat.add_zero]
    unfold sta at m2 m3
    constructor
    · intro z
      have := m2 z
      congr 2
      omega
    · intro z
      have := m3 z
      congr 2
  · have q := ho.1 rfl
    obtain ⟨m1, m2, m3⟩ := mv_facts (lo := lo) (half := gc / 2) (a := s.2.1) (by omega)
    simp only [cond_true, Bool.not_true, Bool.true_and, Bool.false_and, cond_false, Nat.add_zero]
    unfold sta at m2 m3
    constructor
    · intro z
      have := m2 z
      omega
    · intro z
      have := m3 z
      omega
theorem fs_back {s : PN} {r c : Nat} (ho : okf cr gr gc) (h1 : s.1 < gr) (h2 : s.2.1 < gc) (hr : r < ngr cr gr) (hc : c < ngc cr gc) (e : s.1 * gc + s.2.1 = cmc cr lo gr gc r c) : fmvv cr lo gr gc s = true ∧ (fstep cr lo gr gc h s).1 = r ∧ (fstep cr lo gr gc h s).2.1 = c := by
  unfold ngr at hr
  unfold ngc at hc
  unfold fmvv fstep
  unfold cmc at e
  cases cr
  · have q := ho.2 rfl
    simp only [cond_false, Bool.not_false, Bool.true_and, Bool.false_and, Nat.add_zero] at e hr hc ⊢
    obtain ⟨b1, b2, b3, b4, b5⟩ := mv_back (lo := lo) (half := gr / 2) hr
    obtain ⟨e1, e2⟩ := dm_inj h2 hc e
    unfold sta at b4 b5
    have e3 : s.1 = 2 * (gr / 2) - 1 - (r + cond lo (gr / 2) 0) := by omega
    rw [e3]
    exact ⟨b4, b5, e2⟩
  · have q := ho.1 rfl
    simp only [cond_true, Bool.not_true, Bool.true_and, Bool.false_and, cond_false, Nat.add_zero] at e hr hc ⊢
    obtain ⟨b1, b2, b3, b4, b5⟩ := mv_back (lo := lo) (half := gc / 2) hc
    obtain ⟨e1, e2⟩ := dm_inj h2 (by omega) e
    unfold sta at b4 b5
    have e3 : s.2.1 = 2 * (gc / 2) - 1 - (c + cond lo (gc / 2) 0) := by omega
    rw [e3]
    exact ⟨b4, e1, b5⟩
theorem fs_cells {r c : Nat} (ho : okf cr gr gc) (hr : r < ngr cr gr) (hc : c < ngc cr gc) : stc cr lo gr gc r c < gr * gc ∧ cmc cr lo gr gc r c < gr * gc := by
  unfold ngr at hr
  unfold ngc at hc
  unfold stc cmc
  cases cr
  · have q := ho.2 rfl
    simp only [cond_false, Bool.not_false, Bool.true_and, Bool.false_and, Nat.add_zero] at hr hc ⊢
    have b := (mv_back (lo := lo) (half := gr / 2) hr).1
    unfold sta at b
    exact ⟨rc_lt (by omega) hc, rc_lt (by omega) hc⟩
  · have q := ho.1 rfl
    simp only [cond_true, Bool.not_true, Bool.true_and, Bool.false_and, cond_false, Nat.add_zero] at hr hc ⊢
    have b := (mv_back (lo := lo) (half := gc / 2) hc).1
    unfold sta at b
    exact ⟨rc_lt hr (by omega), rc_lt hr (by omega)⟩
def ocl (cr lo : Bool) (gr gc h : Nat) (s : PN) : Nat := (fstep cr lo gr gc h s).1 * ngc cr gc + (fstep cr lo gr gc h s).2.1
def AC (N gr gc h : Nat) (S : Nat → PN) (cr lo : Bool) (o : Nat) (I : pm_II) : Prop := I 29 8 = nI gr ∧ I 29 9 = nI gc ∧ I 29 10 = nI h ∧ ∀ p, p < N → I 32 (fpos gc h (S p)) = nI p ∧ (ocl cr lo gr gc h (S p) < o → I 31 (fpos (ngc cr gc) (2 * h) (fstep cr lo gr gc h (S p))) = nI p) ∧ I 34 p = b2i (Bool.xor (S p).2.2.2.1 (fmvv cr lo gr gc (S p) && decide (ocl cr lo gr gc h (S p) < o))) ∧ I 35 p = b2i (Bool.xor (S p).2.2.2.2 ((fmvv cr lo gr gc (S p) && decide (ocl cr lo gr gc h (S p) < o)) && !cr))
theorem ngg (ho : okf cr gr gc) (h1 : gr * gc * h = N) : ngr cr gr * ngc cr gc * (2 * h) = N := by
  unfold ngr ngc
  cases cr
  · have q := ho.2 rfl
    simp only [cond_false]
    rw [← h1, q.1]
    have : 2 * (gr / 2) / 2 = gr / 2 := by omega
    rw [this, Nat.mul_assoc 2, Nat.mul_assoc 2, Nat.mul_left_comm]
  · have q := ho.1 rfl
    simp only [cond_true]
    rw [← h1]
    have e : gr * gc = 2 * (gr * (gc / 2)) := by rw [Nat.mul_left_comm, ← q.1]
    rw [e, Nat.mul_assoc 2, Nat.mul_left_comm]
theorem c_cell {r c : Nat} {I : pm_II} (hu : 100 ≤ u) (hN : gr * gc * h = N) (hN64 : N ≤ 64) (hh : 1 ≤ h) (ho : okf cr gr gc) (hS : ∀ p, p < N → (S p).1 < gr ∧ (S p).2.1 < gc ∧ (S p).2.2.1 < h) (hinj : injP (fun p => fpos gc h (S p)) N) (hr : r < ngr cr gr) (hc : c < ngc cr gc) (ha : AC N gr gc h S cr lo (r * ngc cr gc + c) I) : ∃ I2, F_Fo_layOver u (nI (cmc cr lo gr gc r c)) (nI (stc cr lo gr gc r c)) (nI (r * ngc cr gc + c)) (b2i cr) I J = some ((), I2, J) ∧ AC N gr gc h S cr lo (r * ngc cr gc + c + 1) I2 ∧ On (fun c _ => c = 31 ∨ c = 34 ∨ c = 35) I I2 := by
  have hpos : ∀ p, p < N → fpos gc h (S p) < N := fun p hp => by
    obtain ⟨b1, b2, b3⟩ := hS p hp
    have := fpos_lt b1 b2 b3
    omega
  have hsur := onto_ex (inj_onto (f := fun p => fpos gc h (S p)) (n := N) (fun k hk => hpos k hk) hinj)
  obtain ⟨s1, s2⟩ := fs_cells (lo := lo) ho hr hc
  have l1 : stc cr lo gr gc r c * h + h ≤ N := by
    have : (stc cr lo gr gc r c + 1) * h ≤ gr * gc * h := Nat.mul_le_mul_right _ s1
    rw [Nat.succ_mul] at this; omega
  have l2 : cmc cr lo gr gc r c * h + h ≤ N := by
    have : (cmc cr lo gr gc r c + 1) * h ≤ gr * gc * h := Nat.mul_le_mul_right _ s2
    rw [Nat.succ_mul] at this; omega
  have l3 : (r * ngc cr gc + c) * (2 * h) + 2 * h ≤ N := by
    have := rc_lt hr hc
    have : (r * ngc cr gc + c + 1) * (2 * h) ≤ ngr cr gr * ngc cr gc * (2 * h) := Nat.mul_le_mul_right _ this
    rw [Nat.succ_mul, ngg ho hN] at this; omega
  obtain ⟨a8, a9, a10, ap⟩ := ha
  obtain ⟨I2, i1, i2, i3, i4, i5⟩ := c_lay (u := u) (J := J) (cr := cr) (comes := cmc cr lo gr gc r c) (stays := stc cr lo gr gc r c) (top := (r * ngc cr gc + c) * (2 * h)) hN64 hh l2 l1 l3 hpos hinj hsur h 0 u (fun p => Bool.xor (S p).2.2.2.1 (fmvv cr lo gr gc (S p) && decide (ocl cr lo gr gc h (S p) < r * ngc cr gc + c))) (fun p => Bool.xor (S p).2.2.2.2 ((fmvv cr lo gr gc (S p) && decide (ocl cr lo gr gc h (S p) < r * ngc cr gc + c)) && !cr)) I (by omega) (by omega) a10 (fun p hp => (ap p hp).1) (fun p hp => (ap p hp).2.2)
  refine ⟨I2, ?_, ⟨by rw [i5 29 8 (by omega)]; exact a8, by rw [i5 29 9 (by omega)]; exact a9, by rw [i5 29 10 (by omega)]; exact a10, fun p hp => ?_⟩, i5⟩
  · unfold F_Fo_layOver
    rw [a10, nl_2, pk_mul, pk_mul, Nat.mul_assoc]
    exact i1
  · obtain ⟨b1, b2, b3⟩ := hS p hp
    obtain ⟨q1, q2, q3, q4⟩ := ap p hp
    obtain ⟨n1, n2, n3⟩ := fs_lt (lo := lo) (h := h) ho b1 b2 b3
    obtain ⟨j1, j2⟩ := i4 p hp
    have hcell : (cmc cr lo gr gc r c * h ≤ fpos gc h (S p) ∧ fpos gc h (S p) < cmc cr lo gr gc r c * h + (h - 0)) ↔ (fmvv cr lo gr gc (S p) = true ∧ ocl cr lo gr gc h (S p) = r * ngc cr gc + c) := by
      constructor
      · intro ⟨z1, z2⟩
        have e : (S p).1 * gc + (S p).2.1 = cmc cr lo gr gc r c := by
          unfold fpos at z1 z2
          have := dm_inj (t := (S p).1 * gc + (S p).2.1) (t2 := cmc cr lo gr gc r c) (m := h) (k := (S p).2.2.1) (k2 := ((S p).1 * gc + (S p).2.1) * h + (S p).2.2.1 - cmc cr lo gr gc r c * h) b3 (by omega) (by omega)
          exact this.1
        obtain ⟨y1, y2, y3⟩ := fs_back (h := h) ho b1 b2 hr hc e
        exact ⟨y1, by unfold ocl; rw [y2, y3]⟩
      · intro ⟨z1, z2⟩
        unfold ocl at z2
        obtain ⟨y1, y2⟩ := dm_inj n2 hc z2
        have e := (fs_cell (h := h) ho b1 b2).1 z1
        rw [y1, y2] at e
        unfold fpos
        rw [e]
        omega
    refine ⟨by rw [i5 32 _ (by omega)]; exact q1, fun hlt => ?_, ?_, ?_⟩
    · by_cases hz : ocl cr lo gr gc h (S p) = r * ngc cr gc + c
      · have hz' := hz
        unfold ocl at hz'
        obtain ⟨y1, y2⟩ := dm_inj n2 hc hz'
        have efp : fpos (ngc cr gc) (2 * h) (fstep cr lo gr gc h (S p)) = (r * ngc cr gc + c) * (2 * h) + (fstep cr lo gr gc h (S p)).2.2.1 := by unfold fpos; rw [y1, y2]
        rw [efp]
        cases hm : fmvv cr lo gr gc (S p) with
        | true =>
          have e := (fs_cell (h := h) ho b1 b2).1 hm
          rw [y1, y2] at e
          have eu : (fstep cr lo gr gc h (S p)).2.2.1 = h - 1 - (S p).2.2.1 := by
            show cond (fmvv cr lo gr gc (S p)) _ _ = _
            rw [hm]; rfl
          rw [eu, (i2 (h - 1 - (S p).2.2.1) (by omega) (by omega)).1, show h - 1 - (h - 1 - (S p).2.2.1) = (S p).2.2.1 by omega, ← e]
          exact q1
        | false =>
          have e := (fs_cell (h := h) ho b1 b2).2 hm
          rw [y1, y2] at e
          have eu : (fstep cr lo gr gc h (S p)).2.2.1 = (S p).2.2.1 + h := by
            show cond (fmvv cr lo gr gc (S p)) _ _ = _
            rw [hm]; rfl
          rw [eu, show (r * ngc cr gc + c) * (2 * h) + ((S p).2.2.1 + h) = (r * ngc cr gc + c) * (2 * h) + h + (S p).2.2.1 by omega, (i2 (S p).2.2.1 (by omega) b3).2, ← e]
          exact q1
      · have hlt2 : ocl cr lo gr gc h (S p) < r * ngc cr gc + c := by omega
        have hx : fpos (ngc cr gc) (2 * h) (fstep cr lo gr gc h (S p)) < (r * ngc cr gc + c) * (2 * h) := rc_lt hlt2 n3
        rw [i3 _ (Or.inl hx)]
        exact q2 hlt2
    · rw [j1]
      congr 1
      by_cases hz : fmvv cr lo gr gc (S p) = true ∧ ocl cr lo gr gc h (S p) = r * ngc cr gc + c
      · rw [decide_eq_true (hcell.mpr hz), hz.1, hz.2, decide_eq_false (by omega), decide_eq_true (by omega)]
        cases (S p).2.2.2.1 <;> rfl
      · rw [decide_eq_false (fun y => hz (hcell.mp y)), Bool.xor_false]
        congr 1
        cases hm : fmvv cr lo gr gc (S p) with
        | false => rfl
        | true =>
          have : ¬ ocl cr lo gr gc h (S p) = r * ngc cr gc + c := fun y => hz ⟨hm, y⟩
          simp only [Bool.true_and]
          exact decide_eq_decide.mpr (by omega)
    · rw [j2]
      congr 1
      by_cases hz : fmvv cr lo gr gc (S p) = true ∧ ocl cr lo gr gc h (S p) = r * ngc cr gc + c
      · rw [decide_eq_true (hcell.mpr hz), hz.1, hz.2, decide_eq_false (by omega), decide_eq_true (by omega)]
        cases (S p).2.2.2.2 <;> cases cr <;> rfl
      · rw [decide_eq_false (fun y => hz (hcell.mp y)), Bool.false_and, Bool.xor_false]
        congr 1
        cases hm : fmvv cr lo gr gc (S p) with
        | false => rfl
        | true =>
          have : ¬ ocl cr lo gr gc h (S p) = r * ngc cr gc + c := fun y => hz ⟨hm, y⟩
          simp only [Bool.true_and]
          congr 1
          exact decide_eq_decide.mpr (by omega)
end FO
