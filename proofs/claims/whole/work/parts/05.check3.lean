def pm_okP (Y : pm_M) (pc : Nat) : Bool := match pm_cd Y pc with | none => true | some q => decide (decode (pm_by Y) pc = .ok (q.1, q.2.1)) && pm_okI (pm_oc Y) pc q
theorem lawp_0 : ((List.range 50).all fun j => pm_okP m_La_law (50 * 0 + j)) = true := by decide +kernel
theorem lawp_1 : ((List.range 50).all fun j => pm_okP m_La_law (50 * 1 + j)) = true := by decide +kernel
theorem lawp_2 : ((List.range 50).all fun j => pm_okP m_La_law (50 * 2 + j)) = true := by decide +kernel
theorem lawp_3 : ((List.range 50).all fun j => pm_okP m_La_law (50 * 3 + j)) = true := by decide +kernel
theorem lawp_4 : ((List.range 50).all fun j => pm_okP m_La_law (50 * 4 + j)) = true := by decide +kernel
theorem lawp_5 : ((List.range 50).all fun j => pm_okP m_La_law (50 * 5 + j)) = true := by decide +kernel
theorem lawp_6 : ((List.range 50).all fun j => pm_okP m_La_law (50 * 6 + j)) = true := by decide +kernel
theorem lawp_7 : ((List.range 50).all fun j => pm_okP m_La_law (50 * 7 + j)) = true := by decide +kernel
theorem lawp_8 : ((List.range 50).all fun j => pm_okP m_La_law (50 * 8 + j)) = true := by decide +kernel
theorem lawp_9 : ((List.range 50).all fun j => pm_okP m_La_law (50 * 9 + j)) = true := by decide +kernel
theorem lawp_10 : ((List.range 50).all fun j => pm_okP m_La_law (50 * 10 + j)) = true := by decide +kernel
theorem lawp_11 : ((List.range 50).all fun j => pm_okP m_La_law (50 * 11 + j)) = true := by decide +kernel
theorem lawp_12 : ((List.range 50).all fun j => pm_okP m_La_law (50 * 12 + j)) = true := by decide +kernel
theorem lawp_13 : ((List.range 50).all fun j => pm_okP m_La_law (50 * 13 + j)) = true := by decide +kernel
theorem lawp_14 : ((List.range 50).all fun j => pm_okP m_La_law (50 * 14 + j)) = true := by decide +kernel
theorem lawp_15 : ((List.range 50).all fun j => pm_okP m_La_law (50 * 15 + j)) = true := by decide +kernel
theorem lawp_16 : ((List.range 50).all fun j => pm_okP m_La_law (50 * 16 + j)) = true := by decide +kernel
theorem lawp_17 : ((List.range 50).all fun j => pm_okP m_La_law (50 * 17 + j)) = true := by decide +kernel
theorem lawp_18 : ((List.range 50).all fun j => pm_okP m_La_law (50 * 18 + j)) = true := by decide +kernel
theorem lawp_19 : ((List.range 50).all fun j => pm_okP m_La_law (50 * 19 + j)) = true := by decide +kernel
theorem lawp_20 : ((List.range 50).all fun j => pm_okP m_La_law (50 * 20 + j)) = true := by decide +kernel
theorem lawp_21 : ((List.range 50).all fun j => pm_okP m_La_law (50 * 21 + j)) = true := by decide +kernel
theorem lawp_22 : ((List.range 50).all fun j => pm_okP m_La_law (50 * 22 + j)) = true := by decide +kernel
theorem lawp_23 : ((List.range 50).all fun j => pm_okP m_La_law (50 * 23 + j)) = true := by decide +kernel
theorem lawp_24 : ((List.range 50).all fun j => pm_okP m_La_law (50 * 24 + j)) = true := by decide +kernel
theorem lawp_25 : ((List.range 50).all fun j => pm_okP m_La_law (50 * 25 + j)) = true := by decide +kernel
theorem lawp_26 : ((List.range 50).all fun j => pm_okP m_La_law (50 * 26 + j)) = true := by decide +kernel
theorem lawp_27 : ((List.range 50).all fun j => pm_okP m_La_law (50 * 27 + j)) = true := by decide +kernel
theorem lawp_28 : ((List.range 50).all fun j => pm_okP m_La_law (50 * 28 + j)) = true := by decide +kernel
theorem lawp : ∀ i, i < 29 → ((List.range 50).all fun j => pm_okP m_La_law (50 * i + j)) = true
  | 0, _ => lawp_0
  | 1, _ => lawp_1
  | 2, _ => lawp_2
  | 3, _ => lawp_3
  | 4, _ => lawp_4
  | 5, _ => lawp_5
  | 6, _ => lawp_6
  | 7, _ => lawp_7
  | 8, _ => lawp_8
  | 9, _ => lawp_9
  | 10, _ => lawp_10
  | 11, _ => lawp_11
  | 12, _ => lawp_12
  | 13, _ => lawp_13
  | 14, _ => lawp_14
  | 15, _ => lawp_15
  | 16, _ => lawp_16
  | 17, _ => lawp_17
  | 18, _ => lawp_18
  | 19, _ => lawp_19
  | 20, _ => lawp_20
  | 21, _ => lawp_21
  | 22, _ => lawp_22
  | 23, _ => lawp_23
  | 24, _ => lawp_24
  | 25, _ => lawp_25
  | 26, _ => lawp_26
  | 27, _ => lawp_27
  | 28, _ => lawp_28
  | n + 29, h => absurd h (by omega)
theorem okC_La_law : pm_okC m_La_law = true := by
  refine List.all_eq_true.mpr (fun pc hpc => ?_)
  have hpc : pc < 1409 := List.mem_range.mp hpc
  have h := List.all_eq_true.mp (lawp (pc / 50) (by omega)) (pc % 50) (List.mem_range.mpr (Nat.mod_lt _ (by decide)))
  rw [Nat.div_add_mod] at h
  exact h
