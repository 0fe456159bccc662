/-! ===== a blank and a NUMBER; two readers side by side ===== -/
def nnF (b : Nat → Int32) (n p : Nat) (e : Option Nat) : Nat := q_exP b n p e 32
def nnP (b : Nat → Int32) (n p : Nat) (e : Option Nat) : Nat := q_exP b n p e 32 + q_dd b n (q_exP b n p e 32) (q_exE b n p e 32)
def nnE (b : Nat → Int32) (n p : Nat) (e : Option Nat) (lo hi : Int32) : Option Nat := q_nmE b n (q_exP b n p e 32) (q_exE b n p e 32) lo hi
def nnV (b : Nat → Int32) (n p : Nat) (e : Option Nat) : Nat := q_nmV b n (q_exP b n p e 32) (q_exE b n p e 32)
theorem nnV_lt {b : Nat → Int32} {n p : Nat} {e : Option Nat} : nnV b n p e < 1000000 := q_nmV_lt
theorem q_nmE_ok {b : Nat → Int32} {n p : Nat} {e : Option Nat} {lo hi : Int32} (h : q_nmE b n p e lo hi = none) : e = none ∧ lo ≤ nI (q_nmV b n p e) ∧ nI (q_nmV b n p e) ≤ hi := by
  cases e with
  | some x => cases h
  | none =>
    unfold q_nmE at h
    dsimp only at h
    split at h
    · cases h
    · split at h
      · cases h
      · split at h
        · rename_i c; exact ⟨rfl, c⟩
        · cases h
theorem q_exE_ok {b : Nat → Int32} {n p : Nat} {e : Option Nat} {c : Int32} (h : q_exE b n p e c = none) : e = none := by
  cases e with
  | none => rfl
  | some x =>
    have : q_exE b n p (some x) c = some x := by simp [q_exE, q_tk, q_bl]
    rw [this] at h; cases h
theorem nnE_ok {b : Nat → Int32} {n p : Nat} {e : Option Nat} {lo hi : Int32} (h : nnE b n p e lo hi = none) : e = none ∧ lo ≤ nI (nnV b n p e) ∧ nI (nnV b n p e) ≤ hi := by
  have := q_nmE_ok h
  exact ⟨q_exE_ok this.1, this.2⟩
theorem Ok_nn {b : Nat → Int32} {n p : Nat} {e : Option Nat} {lo hi : Int32} (ho : Ok n p e) : Ok n (nnP b n p e) (nnE b n p e lo hi) := Ok_nm (Ok_ex ho)
theorem Om_nn {b : Nat → Int32} {n p : Nat} {e : Option Nat} {lo hi : Int32} (ho : Om n p e) : Om n (nnP b n p e) (nnE b n p e lo hi) := Om_nm (Om_ex ho)
theorem t_nn {u : Nat} {I : pm_II} {J : pm_JJ} {b : Nat → Int32} {n p f : Nat} {e : Option Nat} {lo hi : Int32} (hu : 10 ≤ u) (ho : Ok n p e) (hb : Tb b n I) : F_Ta_readNextNumber u lo hi (tc I p f e) J = some (nI (nnV b n p e), tc I (nnP b n p e) (nnF b n p e) (nnE b n p e lo hi), J) := t_nextNum hu ho hb
theorem m_nn {u : Nat} {I : pm_II} {J : pm_JJ} {b : Nat → Int32} {n p : Nat} {e : Option Nat} {lo hi : Int32} (hu : 10 ≤ u) (ho : Om n p e) (hb : Mb b n I) : F_Mo_behind u lo hi (mc I p e) J = some (nI (nnV b n p e), mc I (nnP b n p e) (nnE b n p e lo hi), J) := m_behind hu ho hb
/-- with a fault nothing is read -/
theorem ex_some {b : Nat → Int32} {n p x : Nat} {c : Int32} : q_exP b n p (some x) c = p ∧ q_exE b n p (some x) c = some x := by
  constructor
  · simp [q_exP, q_tk]
  · simp [q_exE, q_tk, q_bl]
theorem nn_some {b : Nat → Int32} {n p x : Nat} {lo hi : Int32} : nnP b n p (some x) = p ∧ nnE b n p (some x) lo hi = some x ∧ nnV b n p (some x) = 0 := by
  unfold nnP nnE nnV
  rw [ex_some.1, ex_some.2]
  exact ⟨rfl, rfl, rfl⟩
theorem fi_some {n p x : Nat} : q_fi n p (some x) = some x := by
  unfold q_fi; split <;> rfl
/-- two readers that stand alike -/
def Eq2 (p : Nat) (e : Option Nat) (p2 : Nat) (e2 : Option Nat) : Prop := e = e2 ∧ (e = none → p = p2)
theorem Eq2.rfl' {p : Nat} {e : Option Nat} : Eq2 p e p e := ⟨rfl, fun _ => rfl⟩
theorem Eq2.ex {b : Nat → Int32} {n p p2 : Nat} {e e2 : Option Nat} {c : Int32} (h : Eq2 p e p2 e2) : Eq2 (q_exP b n p e c) (q_exE b n p e c) (q_exP b n p2 e2 c) (q_exE b n p2 e2 c) := by
  obtain ⟨rfl, h2⟩ := h
  cases e with
  | none => rw [h2 rfl]; exact Eq2.rfl'
  | some x => rw [ex_some.1, ex_some.2, ex_some.1, ex_some.2]; exact ⟨rfl, fun z => by cases z⟩
theorem Eq2.nn {b : Nat → Int32} {n p p2 : Nat} {e e2 : Option Nat} {lo hi : Int32} (h : Eq2 p e p2 e2) : Eq2 (nnP b n p e) (nnE b n p e lo hi) (nnP b n p2 e2) (nnE b n p2 e2 lo hi) ∧ nnV b n p e = nnV b n p2 e2 := by
  obtain ⟨rfl, h2⟩ := h
  cases e with
  | none => rw [h2 rfl]; exact ⟨Eq2.rfl', rfl⟩
  | some x =>
    have h1 := nn_some (b := b) (n := n) (p := p) (x := x) (lo := lo) (hi := hi)
    have h3 := nn_some (b := b) (n := n) (p := p2) (x := x) (lo := lo) (hi := hi)
    rw [h1.1, h1.2.1, h1.2.2, h3.1, h3.2.1, h3.2.2]; exact ⟨⟨rfl, fun z => by cases z⟩, rfl⟩
theorem Eq2.nm {b : Nat → Int32} {n p p2 : Nat} {e e2 : Option Nat} {lo hi : Int32} (h : Eq2 p e p2 e2) : Eq2 (p + q_dd b n p e) (q_nmE b n p e lo hi) (p2 + q_dd b n p2 e2) (q_nmE b n p2 e2 lo hi) ∧ q_nmV b n p e = q_nmV b n p2 e2 := by
  obtain ⟨rfl, h2⟩ := h
  cases e with
  | none => rw [h2 rfl]; exact ⟨Eq2.rfl', rfl⟩
  | some x => exact ⟨⟨rfl, fun z => by cases z⟩, rfl⟩
theorem Eq2.e {p p2 : Nat} {e e2 : Option Nat} (h : Eq2 p e p2 e2) : e = e2 := h.1
theorem Eq2.p {p p2 : Nat} {e e2 : Option Nat} (h : Eq2 p e p2 e2) (he : e = none) : p = p2 := h.2 he
/-- the answer of a text's call -/
def ansW (e : Option Nat) (x : Int32) : Int32 := match e with
  | none => x
  | some y => -1000 - nI y
theorem t_close2 {u : Nat} {I : pm_II} {J : pm_JJ} {b : Nat → Int32} {n p f : Nat} {e : Option Nat} {x : Int32} (ho : Ok n p e) (hb : Tb b n I) : F_Ta_close u x (tc I p f e) J = some (ansW e x, tc (pm_up I 17 1 0) p f e, J) := by
  rw [t_close ho hb]
  cases e <;> rfl
/-- a text begins: the tape as both have it -/
theorem Ptape.bn {I : pm_II} (h : Ptape I) : ∃ (b : Nat → Int32) (n : Nat), Tb b n I ∧ I 120 2 = nI n ∧ (∀ j, j < n → I 121 j = b j) ∧ ∀ j, j < n → ∃ x : Nat, x < 256 ∧ b j = nI x := by
  obtain ⟨n, hn, h1, h2, h3, h4⟩ := h
  exact ⟨I 121, n, ⟨h3, h1, hn⟩, h2, fun j hj => rfl, h4⟩
theorem Ptape.zero {I : pm_II} (h1 : I 17 1 = 0) (h2 : I 120 2 = 0) : Ptape I := ⟨0, by omega, h1, h2, fun j hj => absurd hj (Nat.not_lt_zero _), fun j hj => absurd hj (Nat.not_lt_zero _)⟩
