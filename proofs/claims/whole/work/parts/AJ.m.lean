/-! ===== the pure machine, run by the kernel, for what reads no script ===== -/
abbrev EH : Type := Nat × List (Nat × Nat × Int32) × List (Nat × Nat × Nat)
def lkI : List (Nat × Nat × Int32) → Nat → Nat → Int32
  | [], _, _ => 0
  | e :: l, a, k => cond (Nat.beq a e.1) (cond (Nat.beq k e.2.1) e.2.2 (lkI l a k)) (lkI l a k)
def lkR : List (Nat × Nat × Nat) → Nat → Nat → Value
  | [], _, _ => .null
  | e :: l, a, k => cond (Nat.beq a e.1) (cond (Nat.beq k e.2.1) (.ref e.2.2) (lkR l a k)) (lkR l a k)
def abI (xs : Nat → Int32) (l : List (Nat × Nat × Int32)) : pm_II := fun a => cond (Nat.beq a 0) xs (fun k => lkI l a k)
def abJ (n : Nat) : pm_JJ := fun a => cond (Nat.beq a 0) (fun _ => Int64.ofNat n) (fun _ => 0)
def abR (l : List (Nat × Nat × Nat)) : pm_RR := fun a k => lkR l a k
def ab (xs : Nat → Int32) (n : Nat) (h : EH) : pm_H := (h.1, abI xs h.2.1, abJ n, abR h.2.2)
theorem abI_hi {xs : Nat → Int32} {l : List (Nat × Nat × Int32)} {a : Nat} (h : 16 ≤ a) (k : Nat) : abI xs l a k = lkI l a k := by
  unfold abI
  rw [nb_f (by omega : a ≠ 0)]; rfl
theorem ab_wI {xs : Nat → Int32} {n : Nat} {h : EH} {a k : Nat} {x : Int32} (ha : 16 ≤ a) : pm_wI (ab xs n h) a k x = ab xs n (h.1, (a, k, x) :: h.2.1, h.2.2) := by
  have e : pm_up (abI xs h.2.1) a k x = abI xs ((a, k, x) :: h.2.1) := by
    funext b
    by_cases hb : b = a
    · subst hb
      rw [pm_up_eq]
      funext j
      rw [abI_hi ha, abI_hi ha]
      show _ = cond (Nat.beq b b) (cond (Nat.beq j k) x (lkI h.2.1 b j)) (lkI h.2.1 b j)
      rw [nb_t]
      by_cases hj : j = k
      · rw [if_pos hj, hj, nb_t]; rfl
      · rw [if_neg hj, nb_f hj]; rfl
    · rw [pm_up_ne hb]
      unfold abI
      by_cases h0 : b = 0
      · rw [h0]; rfl
      · rw [nb_f h0]
        funext j
        show lkI h.2.1 b j = cond (Nat.beq b a) _ (lkI h.2.1 b j)
        rw [nb_f hb]; rfl
  show (h.1, pm_up (abI xs h.2.1) a k x, abJ n, abR h.2.2) = _
  rw [e]; rfl
theorem ab_wR {xs : Nat → Int32} {n : Nat} {h : EH} {a k b : Nat} : pm_wR (ab xs n h) a k (.ref b) = ab xs n (h.1, h.2.1, (a, k, b) :: h.2.2) := by
  have e : pm_up (abR h.2.2) a k (.ref b) = abR ((a, k, b) :: h.2.2) := by
    funext c
    by_cases hc : c = a
    · subst hc
      rw [pm_up_eq]
      funext j
      show _ = cond (Nat.beq c c) (cond (Nat.beq j k) (.ref b) (lkR h.2.2 c j)) (lkR h.2.2 c j)
      rw [nb_t]
      by_cases hj : j = k
      · rw [if_pos hj, hj, nb_t]; rfl
      · rw [if_neg hj, nb_f hj]; rfl
    · rw [pm_up_ne hc]
      funext j
      show lkR h.2.2 c j = cond (Nat.beq c a) _ (lkR h.2.2 c j)
      rw [nb_f hc]; rfl
  show (h.1, abI xs h.2.1, abJ n, pm_up (abR h.2.2) a k (.ref b)) = _
  rw [e]; rfl
def zI : List (Nat × Nat × Int32) → Nat → Bool
  | [], _ => true
  | e :: l, a => cond (Nat.beq a e.1) false (zI l a)
def zR : List (Nat × Nat × Nat) → Nat → Bool
  | [], _ => true
  | e :: l, a => cond (Nat.beq a e.1) false (zR l a)
theorem zI_z {l : List (Nat × Nat × Int32)} {a : Nat} (h : zI l a = true) (k : Nat) : lkI l a k = 0 := by
  induction l with
  | nil => rfl
  | cons e l ih =>
    unfold zI at h
    unfold lkI
    cases hb : Nat.beq a e.1 with
    | true => rw [hb] at h; cases h
    | false => rw [hb] at h; exact ih h
theorem zR_z {l : List (Nat × Nat × Nat)} {a : Nat} (h : zR l a = true) (k : Nat) : lkR l a k = .null := by
  induction l with
  | nil => rfl
  | cons e l ih =>
    unfold zR at h
    unfold lkR
    cases hb : Nat.beq a e.1 with
    | true => rw [hb] at h; cases h
    | false => rw [hb] at h; exact ih h
theorem ab_z {xs : Nat → Int32} {n : Nat} {h : EH} (h16 : 16 ≤ h.1) (h1 : zI h.2.1 h.1 = true) (h2 : zR h.2.2 h.1 = true) : pm_z (ab xs n h) = ab xs n (h.1 + 1, h.2.1, h.2.2) := by
  have e1 : (fun a => cond (Nat.beq a h.1) (fun _ => (0 : Int32)) (abI xs h.2.1 a)) = abI xs h.2.1 := by
    funext a
    by_cases ha : a = h.1
    · rw [ha, nb_t]
      funext k
      rw [abI_hi h16, zI_z h1]; rfl
    · rw [nb_f ha]; rfl
  have e2 : (fun a => cond (Nat.beq a h.1) (fun _ => (0 : Int64)) (abJ n a)) = abJ n := by
    funext a
    by_cases ha : a = h.1
    · rw [ha, nb_t]
      unfold abJ
      rw [nb_f (by omega : h.1 ≠ 0)]; rfl
    · rw [nb_f ha]; rfl
  have e3 : (fun a => cond (Nat.beq a h.1) (fun _ => Value.null) (abR h.2.2 a)) = abR h.2.2 := by
    funext a
    by_cases ha : a = h.1
    · rw [ha, nb_t]
      funext k
      exact (zR_z h2 k).symm
    · rw [nb_f ha]; rfl
  show (h.1 + 1, (fun a => cond (Nat.beq a h.1) (fun _ => (0 : Int32)) (abI xs h.2.1 a)), (fun a => cond (Nat.beq a h.1) (fun _ => (0 : Int64)) (abJ n a)), (fun a => cond (Nat.beq a h.1) (fun _ => Value.null) (abR h.2.2 a))) = _
  rw [e1, e2, e3]; rfl
/-- n ints, one after another, from the cell a to the cell b -/
def cpE (l0 : List (Nat × Nat × Int32)) (a sp b dp : Nat) : Nat → List (Nat × Nat × Int32)
  | 0 => l0
  | n + 1 => (b, dp + n, lkI l0 a (sp + n)) :: cpE l0 a sp b dp n
theorem cpE_b {l0 : List (Nat × Nat × Int32)} {a sp b dp : Nat} (n k : Nat) : lkI (cpE l0 a sp b dp n) b k = if dp ≤ k ∧ k < dp + n then lkI l0 a (sp + (k - dp)) else lkI l0 b k := by
  induction n with
  | zero => rw [if_neg (by omega)]; rfl
  | succ n ih =>
    show cond (Nat.beq b b) (cond (Nat.beq k (dp + n)) (lkI l0 a (sp + n)) (lkI (cpE l0 a sp b dp n) b k)) _ = _
    rw [nb_t]
    by_cases hk : k = dp + n
    · rw [hk, nb_t, if_pos (by omega), show dp + n - dp = n by omega]; rfl
    · rw [nb_f hk]
      show lkI (cpE l0 a sp b dp n) b k = _
      rw [ih]
      by_cases h : dp ≤ k ∧ k < dp + n
      · rw [if_pos h, if_pos (by omega)]
      · rw [if_neg h, if_neg (by omega)]
theorem cpE_n {l0 : List (Nat × Nat × Int32)} {a sp b dp c : Nat} (hc : c ≠ b) (n k : Nat) : lkI (cpE l0 a sp b dp n) c k = lkI l0 c k := by
  induction n with
  | zero => rfl
  | succ n ih =>
    show cond (Nat.beq c b) _ (lkI (cpE l0 a sp b dp n) c k) = _
    rw [nb_f hc]; exact ih
theorem ab_cp {xs : Nat → Int32} {nn : Nat} {h : EH} {a sp b dp n : Nat} (ha : 16 ≤ a) (hb : 16 ≤ b) : pm_cpy (ab xs nn h) a sp b dp n = ab xs nn (h.1, cpE h.2.1 a sp b dp n, h.2.2) := by
  have e : (fun c => cond (Nat.beq c b) (va_cpy (abI xs h.2.1 a) (abI xs h.2.1 b) sp dp n) (abI xs h.2.1 c)) = abI xs (cpE h.2.1 a sp b dp n) := by
    funext c
    by_cases hc : c = b
    · rw [hc, nb_t]
      funext k
      rw [abI_hi hb, cpE_b]
      show va_cpy (abI xs h.2.1 a) (abI xs h.2.1 b) sp dp n k = _
      unfold va_cpy
      rw [abI_hi ha, abI_hi hb]
    · rw [nb_f hc]
      unfold abI
      by_cases h0 : c = 0
      · rw [h0]; rfl
      · rw [nb_f h0]
        funext k
        exact (cpE_n hc n k).symm
  show (h.1, (fun c => cond (Nat.beq c b) (va_cpy (abI xs h.2.1 a) (abI xs h.2.1 b) sp dp n) (abI xs h.2.1 c)), abJ nn, abR h.2.2) = _
  rw [e]; rfl
