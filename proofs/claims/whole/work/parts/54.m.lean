/-! ===== a whole row put; painting ===== -/
def sr {α : Type} (I : Nat → Nat → α) (c : Nat) (g : Nat → α) : Nat → Nat → α := fun d => cond (Nat.beq d c) g (I d)
theorem sr_at {α : Type} {I : Nat → Nat → α} {c : Nat} {g : Nat → α} : sr I c g c = g := by unfold sr; rw [nb_t]; rfl
theorem sr_ne {α : Type} {I : Nat → Nat → α} {c d : Nat} {g : Nat → α} (h : d ≠ c) : sr I c g d = I d := by unfold sr; rw [nb_f h]; rfl
theorem sr_id {α : Type} (I : Nat → Nat → α) (c : Nat) : sr I c (I c) = I := by
  funext d
  by_cases h : d = c
  · subst h; exact sr_at
  · exact sr_ne h
theorem sr_up {α : Type} {I : Nat → Nat → α} {c k : Nat} {g : Nat → α} {v : α} : pm_up (sr I c g) c k v = sr I c (fun j => if j = k then v else g j) := by
  funext d
  by_cases h : d = c
  · subst h; rw [pm_up_eq, sr_at, sr_at]
  · rw [pm_up_ne h, sr_ne h, sr_ne h]
theorem sr_sr {α : Type} {I : Nat → Nat → α} {c : Nat} {g h : Nat → α} : sr (sr I c g) c h = sr I c h := by
  funext d
  by_cases e : d = c
  · subst e; rw [sr_at, sr_at]
  · rw [sr_ne e, sr_ne e, sr_ne e]
theorem up_sr {α : Type} {I : Nat → Nat → α} {c k : Nat} {v : α} : pm_up I c k v = sr I c (fun j => if j = k then v else I c j) := by
  have := sr_up (I := I) (c := c) (k := k) (g := I c) (v := v)
  rw [sr_id] at this
  exact this
theorem sr_upo {α : Type} {I : Nat → Nat → α} {c d k : Nat} {g : Nat → α} {v : α} (h : d ≠ c) : pm_up (sr I c g) d k v = sr (pm_up I d k v) c g := by
  funext x
  by_cases e : x = c
  · subst e; rw [pm_up_ne (fun z => h z.symm), sr_at, sr_at]
  · rw [sr_ne e]
    by_cases e2 : x = d
    · subst e2; rw [pm_up_eq, pm_up_eq, sr_ne e]
    · rw [pm_up_ne e2, pm_up_ne e2, sr_ne e]
theorem T3_sr {I : pm_II} {a f w : Int32} {c : Nat} {g : Nat → Int32} (h : c ≠ 17) : sr (T3 I a f w) c g = T3 (sr I c g) a f w := by
  funext d
  by_cases e : d = c
  · subst e; rw [sr_at, tcr h, sr_at]
  · rw [sr_ne e]
    by_cases e2 : d = 17
    · subst e2
      show (fun k => if k = 2 then a else if k = 3 then f else if k = 4 then w else I 17 k) = (fun k => if k = 2 then a else if k = 3 then f else if k = 4 then w else (sr I c g) 17 k)
      rw [sr_ne e]
    · rw [tcr e2, tcr e2, sr_ne e]
theorem M2_sr {I : pm_II} {a w : Int32} {c : Nat} {g : Nat → Int32} (h : c ≠ 120) : sr (M2 I a w) c g = M2 (sr I c g) a w := by
  funext d
  by_cases e : d = c
  · subst e; rw [sr_at, mcr h, sr_at]
  · rw [sr_ne e]
    by_cases e2 : d = 120
    · subst e2
      show (fun k => if k = 4 then a else if k = 5 then w else I 120 k) = (fun k => if k = 4 then a else if k = 5 then w else (sr I c g) 120 k)
      rw [sr_ne e]
    · rw [mcr e2, mcr e2, sr_ne e]
theorem On.sr {S : Nat → Nat → Prop} {α : Type} {I I1 : Nat → Nat → α} (h : On S I I1) {c : Nat} {g : Nat → α} (hw : ∀ k, S c k) : On S I (sr I1 c g) := by
  intro d j a
  by_cases e : d = c
  · subst e; exact absurd (hw j) a
  · rw [sr_ne e]; exact h d j a
theorem Fr.sr {s : Nat} {α : Type} {I I1 : Nat → Nat → α} (h : Fr s I I1) {c : Nat} {g : Nat → α} (hw : ∀ k, own c k = 0 ∨ own c k = s) : Fr s I (sr I1 c g) := by
  intro d j a b
  by_cases e : d = c
  · subst e; exact absurd (hw j) (fun z => z.elim a b)
  · rw [sr_ne e]; exact h d j a b
theorem Tb.sr {b : Nat → Int32} {n : Nat} {I : pm_II} (h : Tb b n I) {c : Nat} {g : Nat → Int32} (h17 : c ≠ 17) (h18 : c ≠ 18) : Tb b n (sr I c g) := ⟨by rw [sr_ne (fun z => h18 z.symm)]; exact h.1, by rw [sr_ne (fun z => h17 z.symm)]; exact h.2.1, h.2.2⟩
theorem Mb.sr {b : Nat → Int32} {n : Nat} {I : pm_II} (h : Mb b n I) {c : Nat} {g : Nat → Int32} (h17 : c ≠ 120) (h18 : c ≠ 122) : Mb b n (sr I c g) := ⟨by rw [sr_ne (fun z => h18 z.symm)]; exact h.1, by rw [sr_ne (fun z => h17 z.symm)]; exact h.2.1, h.2.2⟩
def pnt (g : Nat → Int32) (x y X Y : Nat) (v : Int32) : Nat → Int32 := fun i => if (y ≤ i / 8 ∧ i / 8 ≤ Y) ∧ (x ≤ i % 8 ∧ i % 8 ≤ X) ∧ i < 64 then v else g i
section Paint
variable {u : Nat} {I : pm_II} {J : pm_JJ}
theorem j_max {x y : Int32} : F_Jm_max u x y I J = some ((if x ≤ y then y else x), I, J) := by
  unfold F_Jm_max
  by_cases c : x < y
  · simp [c, Int32.le_of_lt c]
  · by_cases d : x ≤ y
    · have : x = y := Int32.le_antisymm d (Int32.not_lt.mp c)
      subst this; simp
    · simp [c, d]
theorem j_maxN {x y : Nat} (hx : x < 2 ^ 31) (hy : y < 2 ^ 31) : F_Jm_max u (nI x) (nI y) I J = some (nI (max x y), I, J) := by
  rw [j_max]
  simp only [nI_leI hx hy]
  congr 2
  by_cases c : x ≤ y
  · rw [if_pos c, Nat.max_eq_right c]
  · rw [if_neg c, Nat.max_eq_left (by omega)]
theorem j_minN {x y : Nat} (hx : x < 2 ^ 31) (hy : y < 2 ^ 31) : F_Jm_min_II u (nI x) (nI y) I J = some (nI (min x y), I, J) := by
  rw [j_min]
  simp only [nI_leI hx hy]
  congr 2
  by_cases c : x ≤ y
  · rw [if_pos c, Nat.min_eq_left c]
  · rw [if_neg c, Nat.min_eq_right (by omega)]
def rowp (g : Nat → Int32) (r c X : Nat) (v : Int32) : Nat → Int32 := fun i => if i / 8 = r ∧ (c ≤ i % 8 ∧ i % 8 ≤ X) ∧ i < 64 then v else g i
theorem rowp_0 {g : Nat → Int32} {r c X : Nat} {v : Int32} (h : X < c ∨ 8 ≤ c) : rowp g r c X v = g := by
  funext i
  unfold rowp
  rw [if_neg (by omega)]
theorem rowp_s {g : Nat → Int32} {r c X : Nat} {v : Int32} (h : c ≤ X) (h8 : c < 8) (hr : r < 8) : rowp (fun j => if j = r * 8 + c then v else g j) r (c + 1) X v = rowp g r c X v := by
  funext i
  unfold rowp
  dsimp only
  by_cases e : i = r * 8 + c
  · subst e
    rw [if_pos rfl, ite_self, if_pos (by omega)]
  · rw [if_neg e]
    by_cases q : i / 8 = r ∧ (c + 1 ≤ i % 8 ∧ i % 8 ≤ X) ∧ i < 64
    · rw [if_pos q, if_pos (by omega)]
    · rw [if_neg q, if_neg (by omega)]
theorem c_p28 {K : Int32 → Int32 → Int32 → Int32 → Int32 → pm_II → pm_JJ → Option (Unit × pm_II × pm_JJ)} {x1 x4 v : Int32} {X r : Nat} (hX : X < 100) (hr : r < 8) : ∀ (d c N : Nat) (g : Nat → Int32), c + d = 8 → d < N → F_Pl_paint_28 u K N x1 (nI X) x4 v (nI r) (nI c) (sr I 38 g) J = K x1 (nI X) x4 v (nI (r + 1)) (sr I 38 (rowp g r c X v)) J := by
  intro d
  induction d with
  | zero =>
    intro c N g hc hN
    obtain ⟨N, rfl⟩ : ∃ z, N = z + 1 := ⟨N - 1, by omega⟩
    rw [F_Pl_paint_28, nl_8]
    unfold F_Pl_paint_62
    rw [if_pos (show nI 8 ≤ nI c by rw [nI_leI (by omega) (by omega)]; omega), ite_self, nI_io1, nI_add, rowp_0 (by omega)]
  | succ d ih =>
    intro c N g hc hN
    obtain ⟨N, rfl⟩ : ∃ z, N = z + 1 := ⟨N - 1, by omega⟩
    rw [F_Pl_paint_28, nl_8]
    unfold F_Pl_paint_62
    by_cases q : X < c
    · rw [if_pos (by rw [nI_ltI (by omega) (by omega)]; exact q), nI_io1, nI_add, rowp_0 (by omega)]
    · rw [if_neg (by rw [nI_ltI (by omega) (by omega)]; exact q), if_neg (by rw [nI_leI (by omega) (by omega)]; omega), pk_mul, nI_add, vqT (show r * 8 + c < 64 by omega) (by omega), cond_true, nI_clamp (by omega), sr_up, nI_io1, nI_add, ih (c + 1) N _ (by omega) (by omega), rowp_s (by omega) (by omega) hr]
theorem m_f22 {K : Int32 → Int32 → Int32 → Int32 → Int32 → Int32 → pm_II → pm_JJ → Option (Unit × pm_II × pm_JJ)} {x2 x4 v : Int32} {x w r : Nat} (hx : x < 100) (hw : w < 100) (hw1 : 1 ≤ w) (hr : r < 8) : ∀ (d c N : Nat) (g : Nat → Int32), c + d = 8 → d < N → F_Mo_fill_22 u K N (nI x) x2 (nI w) x4 v (nI r) (nI c) (sr I 137 g) J = K (nI x) x2 (nI w) x4 v (nI (r + 1)) (sr I 137 (rowp g r c (x + w - 1) v)) J := by
  intro d
  induction d with
  | zero =>
    intro c N g hc hN
    obtain ⟨N, rfl⟩ : ∃ z, N = z + 1 := ⟨N - 1, by omega⟩
    rw [F_Mo_fill_22, nl_8]
    unfold F_Mo_fill_58
    rw [if_pos (show nI 8 ≤ nI c by rw [nI_leI (by omega) (by omega)]; omega), ite_self, nI_io1, nI_add, rowp_0 (by omega)]
  | succ d ih =>
    intro c N g hc hN
    obtain ⟨N, rfl⟩ : ∃ z, N = z + 1 := ⟨N - 1, by omega⟩
    rw [F_Mo_fill_22, nl_8, nI_add]
    unfold F_Mo_fill_58
    by_cases q : x + w ≤ c
    · rw [if_pos (by rw [nI_leI (by omega) (by omega)]; exact q), nI_io1, nI_add, rowp_0 (by omega)]
    · rw [if_neg (by rw [nI_leI (by omega) (by omega)]; exact q), if_neg (by rw [nI_leI (by omega) (by omega)]; omega), pk_mul, nI_add, vqT (show 8 * r + c < 64 by omega) (by omega), cond_true, nI_clamp (by omega), sr_up, nI_io1, nI_add, ih (c + 1) N _ (by omega) (by omega), Nat.mul_comm 8, rowp_s (by omega) (by omega) hr]
theorem pnt_0 {g : Nat → Int32} {x y X Y : Nat} {v : Int32} (h : Y < y ∨ 8 ≤ y) : pnt g x y X Y v = g := by
  funext i
  unfold pnt
  rw [if_neg (by omega)]
theorem pnt_s {g : Nat → Int32} {x y X Y : Nat} {v : Int32} (h : y ≤ Y) : pnt (rowp g y x X v) x (y + 1) X Y v = pnt g x y X Y v := by
  funext i
  unfold pnt rowp
  by_cases q : (y + 1 ≤ i / 8 ∧ i / 8 ≤ Y) ∧ (x ≤ i % 8 ∧ i % 8 ≤ X) ∧ i < 64
  · rw [if_pos q, if_pos (by omega)]
  · rw [if_neg q]
    by_cases q2 : i / 8 = y ∧ (x ≤ i % 8 ∧ i % 8 ≤ X) ∧ i < 64
    · rw [if_pos q2, if_pos (by omega)]
    · rw [if_neg q2, if_neg (by omega)]
theorem c_p7 {x X Y : Nat} {v : Int32} (hu : 20 ≤ u) (hx : x ≤ 8) (hX : X < 100) (hY : Y < 100) : ∀ (d r N : Nat) (g : Nat → Int32), r + d = 8 → d < N → F_Pl_paint_7 u N (nI x) (nI X) (nI Y) v (nI r) (sr I 38 g) J = some ((), sr I 38 (pnt g x r X Y v), J) := by
  intro d
  induction d with
  | zero =>
    intro r N g hc hN
    obtain ⟨N, rfl⟩ : ∃ z, N = z + 1 := ⟨N - 1, by omega⟩
    rw [F_Pl_paint_7, nl_8]
    unfold F_Pl_paint_68
    rw [if_pos (show nI 8 ≤ nI r by rw [nI_leI (by omega) (by omega)]; omega), ite_self, pnt_0 (by omega)]
  | succ d ih =>
    intro r N g hc hN
    obtain ⟨N, rfl⟩ : ∃ z, N = z + 1 := ⟨N - 1, by omega⟩
    rw [F_Pl_paint_7, nl_8]
    unfold F_Pl_paint_68
    by_cases q : Y < r
    · rw [if_pos (by rw [nI_ltI (by omega) (by omega)]; exact q), pnt_0 (by omega)]
    · rw [if_neg (by rw [nI_ltI (by omega) (by omega)]; exact q), if_neg (by rw [nI_leI (by omega) (by omega)]; omega), nl_0, j_maxN (by omega) (by omega), bd_s, Nat.max_eq_right (by omega), c_p28 hX (by omega) (8 - x) x u _ (by omega) (by omega), ih (r + 1) N _ (by omega) (by omega), pnt_s (by omega)]
theorem m_f3 {x w y h : Nat} {v : Int32} (hu : 20 ≤ u) (hx : x ≤ 8) (hw : w < 80) (hw1 : 1 ≤ w) (hy : y < 100) (hh : h < 80) (hh1 : 1 ≤ h) : ∀ (d r N : Nat) (g : Nat → Int32), r + d = 8 → d < N → F_Mo_fill_3 u N (nI x) (nI y) (nI w) (nI h) v (nI r) (sr I 137 g) J = some ((), sr I 137 (pnt g x r (x + w - 1) (y + h - 1) v), J) := by
  intro d
  induction d with
  | zero =>
    intro r N g hc hN
    obtain ⟨N, rfl⟩ : ∃ z, N = z + 1 := ⟨N - 1, by omega⟩
    rw [F_Mo_fill_3, nl_8]
    unfold F_Mo_fill_64
    rw [if_pos (show nI 8 ≤ nI r by rw [nI_leI (by omega) (by omega)]; omega), ite_self, pnt_0 (by omega)]
  | succ d ih =>
    intro r N g hc hN
    obtain ⟨N, rfl⟩ : ∃ z, N = z + 1 := ⟨N - 1, by omega⟩
    rw [F_Mo_fill_3, nl_8, nI_add]
    unfold F_Mo_fill_64
    by_cases q : y + h ≤ r
    · rw [if_pos (by rw [nI_leI (by omega) (by omega)]; exact q), pnt_0 (by omega)]
    · rw [if_neg (by rw [nI_leI (by omega) (by omega)]; exact q), if_neg (by rw [nI_leI (by omega) (by omega)]; omega), m_f22 (by omega) (by omega) hw1 (by omega) (8 - x) x u _ (by omega) (by omega), ih (r + 1) N _ (by omega) (by omega), pnt_s (by omega)]
theorem c_paint {x y X Y : Nat} {v : Int32} (hu : 20 ≤ u) (hx : x ≤ 8) (hy : y ≤ 8) (hX : X < 100) (hY : Y < 100) : F_Pl_paint u (nI x) (nI y) (nI X) (nI Y) v I J = some ((), sr I 38 (pnt (I 38) x y X Y v), J) := by
  unfold F_Pl_paint
  rw [nl_0, j_maxN (by omega) (by omega), bd_s, Nat.max_eq_right (by omega)]
  have := c_p7 (u := u) (I := I) (J := J) (v := v) hu hx hX hY (8 - y) y u (I 38) (by omega) (by omega)
  rw [sr_id] at this
  exact this
theorem m_fill {x y w h : Nat} {v : Int32} (hu : 20 ≤ u) (hx : x ≤ 8) (hy : y ≤ 8) (hw : w < 80) (hw1 : 1 ≤ w) (hh : h < 80) (hh1 : 1 ≤ h) : F_Mo_fill u (nI x) (nI y) (nI w) (nI h) v I J = some ((), sr I 137 (pnt (I 137) x y (x + w - 1) (y + h - 1) v), J) := by
  unfold F_Mo_fill
  have := m_f3 (u := u) (I := I) (J := J) (v := v) hu hx hw hw1 (show y < 100 by omega) hh hh1 (8 - y) y u (I 137) (by omega) (by omega)
  rw [sr_id] at this
  exact this
end Paint
