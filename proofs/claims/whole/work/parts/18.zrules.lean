/-! ===== rules for the time when all cells are there ===== -/
/-- a cell of a kind -/
def pm_ob (a ci : Nat) : Prop := (pm_sh a).1 = ci ∧ Nat.ble 16 a = true ∧ Nat.blt a 176 = true
theorem pm_ob.K {a ci : Nat} (h : pm_ob a ci) : pm_K ≤ a := Nat.le_of_ble_eq_true h.2.1
theorem pm_ob.lt {a ci : Nat} (h : pm_ob a ci) : a < 176 := Nat.le_of_ble_eq_true h.2.2
abbrev pm_II : Type := Nat → Nat → Int32
abbrev pm_JJ : Type := Nat → Nat → Int64
abbrev pm_RR : Type := Nat → Nat → Value
/-- the heap when all cells are there -/
abbrev hp (I : pm_II) (J : pm_JJ) (R : pm_RR) : pm_H := (176, I, J, R)
def pm_kon (i : Instr) : Option Int32 := match i with
  | .iconst n => some (Int32.ofInt n)
  | .bipush n => some (Int8.ofInt n).toInt32
  | .sipush n => some (Int16.ofInt n).toInt32
  | _ => none
theorem pm_kon_stk {i : Instr} {v : Int32} (h : pm_kon i = some v) (st : List Value) : pm_stk i st = some (.int v :: st) := by
  unfold pm_kon at h
  split at h
  · cases h; rfl
  · cases h; rfl
  · cases h; rfl
  · cases h
section ZRules
variable {k : Nat} {Y : pm_M} {pc : Nat} {L st : List Value} {I : pm_II} {J : pm_JJ} {R : pm_RR} {Q : Option Value → pm_H → Prop}
theorem z_k (q : Nat) (v : Int32) {i : Instr} {len : Nat} {x : Nat × Nat × Nat} (hi : pm_ins Y pc = some (i, len, x)) (hs : pm_kon i = some v) (hq : pc + len = q) (hk : Px k 176 Y q L (.int v :: st) (hp I J R) Q) : Px k 176 Y pc L st (hp I J R) Q := x_s q hi (pm_kon_stk hs st) hq hk
theorem z_gf (q : Nat) (v : Value) {idx len ci f t a : Nat} (hi : pm_ins Y pc = some (.getfield idx, len, ci, f, t)) (ho : pm_ob a ci) (hq : pc + len = q) (hv : pm_rd t (hp I J R) a f = v) (hk : Px k 176 Y q L (v :: st) (hp I J R) Q) : Px k 176 Y pc L (.ref a :: st) (hp I J R) Q := x_gf q hi ho.1 ho.K ho.lt hq hv hk
theorem z_pi (q : Nat) {idx len ci f t a : Nat} {x : Int32} (hi : pm_ins Y pc = some (.putfield idx, len, ci, f, t)) (ht : t = 0 ∨ t = 3) (hf : (pm_cT ci f).2.2.2 = false) (hb : pm_b01 t x) (ho : pm_ob a ci) (hq : pc + len = q) (hk : Px k 176 Y q L st (hp (pm_up I a f x) J R) Q) : Px k 176 Y pc L (.int x :: .ref a :: st) (hp I J R) Q := x_pi q hi ht hf hb ho.1 ho.K ho.lt hq hk
theorem z_pj (q : Nat) {idx len ci f a : Nat} {x : Int64} (hi : pm_ins Y pc = some (.putfield idx, len, ci, f, 1)) (hf : (pm_cT ci f).2.2.2 = false) (ho : pm_ob a ci) (hq : pc + len = q) (hk : Px k 176 Y q L st (hp I (pm_up J a f x) R) Q) : Px k 176 Y pc L (.long x :: .ref a :: st) (hp I J R) Q := x_pj q hi hf ho.1 ho.K ho.lt hq hk
theorem z_pr (q : Nat) {idx len ci f a b : Nat} (hi : pm_ins Y pc = some (.putfield idx, len, ci, f, 2)) (ho : pm_ob a ci) (hf : (pm_cT ci f).2.2.2 = true → pm_kd Y = 2 ∧ pm_oc Y = ci) (hq : pc + len = q) (hk : Px k 176 Y q L st (hp I J (pm_up R a f (.ref b))) Q) : Px k 176 Y pc L (.ref b :: .ref a :: st) (hp I J R) Q := x_pr q hi ho.1 ho.K ho.lt hf hq hk
theorem z_il (q n : Nat) {len : Nat} {x : Nat × Nat × Nat} {a : Nat} {j : Int32} (hi : pm_ins Y pc = some (.iaload, len, x)) (ho : pm_ob a 100) (hn : (pm_sh a).2 = n) (hj : vp_in j n) (hq : pc + len = q) (hk : Px k 176 Y q L (.int (I a j.toNatClampNeg) :: st) (hp I J R) Q) : Px k 176 Y pc L (.int j :: .ref a :: st) (hp I J R) Q := x_il q hi ho.1 ho.K ho.lt (by rw [hn]; exact hj) hq hk
theorem z_is (q n : Nat) {len : Nat} {x : Nat × Nat × Nat} {a : Nat} {j v : Int32} (hi : pm_ins Y pc = some (.iastore, len, x)) (ho : pm_ob a 100) (hn : (pm_sh a).2 = n) (hj : vp_in j n) (hq : pc + len = q) (hk : Px k 176 Y q L st (hp (pm_up I a j.toNatClampNeg v) J R) Q) : Px k 176 Y pc L (.int v :: .int j :: .ref a :: st) (hp I J R) Q := x_is q hi ho.1 ho.K ho.lt (by rw [hn]; exact hj) hq hk
theorem z_zl (q n : Nat) {len : Nat} {x : Nat × Nat × Nat} {a : Nat} {j : Int32} (hi : pm_ins Y pc = some (.baload, len, x)) (ho : pm_ob a 101) (hn : (pm_sh a).2 = n) (hj : vp_in j n) (hq : pc + len = q) (hk : Px k 176 Y q L (.int (I a j.toNatClampNeg) :: st) (hp I J R) Q) : Px k 176 Y pc L (.int j :: .ref a :: st) (hp I J R) Q := x_zl q hi ho.1 ho.K ho.lt (by rw [hn]; exact hj) hq hk
theorem z_zs (q n : Nat) {len : Nat} {x : Nat × Nat × Nat} {a : Nat} {j v : Int32} (hi : pm_ins Y pc = some (.bastore, len, x)) (ho : pm_ob a 101) (hn : (pm_sh a).2 = n) (hj : vp_in j n) (hv : v = 0 ∨ v = 1) (hq : pc + len = q) (hk : Px k 176 Y q L st (hp (pm_up I a j.toNatClampNeg v) J R) Q) : Px k 176 Y pc L (.int v :: .int j :: .ref a :: st) (hp I J R) Q := x_zs q hi ho.1 ho.K ho.lt (by rw [hn]; exact hj) hv hq hk
theorem z_jl (q n : Nat) {len : Nat} {x : Nat × Nat × Nat} {a : Nat} {j : Int32} (hi : pm_ins Y pc = some (.laload, len, x)) (ho : pm_ob a 102) (hn : (pm_sh a).2 = n) (hj : vp_in j n) (hq : pc + len = q) (hk : Px k 176 Y q L (.long (J a j.toNatClampNeg) :: st) (hp I J R) Q) : Px k 176 Y pc L (.int j :: .ref a :: st) (hp I J R) Q := x_jl q hi ho.1 ho.K ho.lt (by rw [hn]; exact hj) hq hk
theorem z_js (q n : Nat) {len : Nat} {x : Nat × Nat × Nat} {a : Nat} {j : Int32} {v : Int64} (hi : pm_ins Y pc = some (.lastore, len, x)) (ho : pm_ob a 102) (hn : (pm_sh a).2 = n) (hj : vp_in j n) (hq : pc + len = q) (hk : Px k 176 Y q L st (hp I (pm_up J a j.toNatClampNeg v) R) Q) : Px k 176 Y pc L (.long v :: .int j :: .ref a :: st) (hp I J R) Q := x_js q hi ho.1 ho.K ho.lt (by rw [hn]; exact hj) hq hk
theorem z_rl (q n : Nat) (v : Value) {len : Nat} {x : Nat × Nat × Nat} {a : Nat} {j : Int32} (hi : pm_ins Y pc = some (.aaload, len, x)) (ho : pm_ob a 103) (hn : (pm_sh a).2 = n) (hj : vp_in j n) (hq : pc + len = q) (hv : R a j.toNatClampNeg = v) (hk : Px k 176 Y q L (v :: st) (hp I J R) Q) : Px k 176 Y pc L (.int j :: .ref a :: st) (hp I J R) Q := x_rl q hi ho.1 ho.K ho.lt (by rw [hn]; exact hj) hq hv hk
theorem z_rs (q n : Nat) {len : Nat} {x : Nat × Nat × Nat} {a b : Nat} {j : Int32} (hi : pm_ins Y pc = some (.aastore, len, x)) (ho : pm_ob a 103) (hn : (pm_sh a).2 = n) (hj : vp_in j n) (hb : pm_ob b 8) (hq : pc + len = q) (hk : Px k 176 Y q L st (hp I J (pm_up R a j.toNatClampNeg (.ref b))) Q) : Px k 176 Y pc L (.ref b :: .int j :: .ref a :: st) (hp I J R) Q := x_rs q hi ho.1 ho.K ho.lt (by rw [hn]; exact hj) hb.1 hb.K hb.lt hq hk
theorem z_al (q n : Nat) {len : Nat} {x : Nat × Nat × Nat} {a : Nat} (hi : pm_ins Y pc = some (.arraylength, len, x)) (ho : pm_ob a 100) (hn : (pm_sh a).2 = n) (hq : pc + len = q) (hk : Px k 176 Y q L (.int (Int32.ofNat n) :: st) (hp I J R) Q) : Px k 176 Y pc L (.ref a :: st) (hp I J R) Q := by
  subst hn
  exact x_al q hi (by rw [ho.1]; exact ⟨by decide, by decide⟩) ho.K ho.lt hq hk
theorem z_cv {idx len z : Nat} {x : Nat × Nat} {Y' : pm_M} {As rest : List Value} {b : Nat} (hi : pm_ins Y pc = some (.invokevirtual idx, len, z, x)) (hz : pm_mz z = some Y') (hk : pm_kd Y' = 0) (hl : As.length = pm_np Y') (hc : pm_cats rest ≤ 8) (hfit : (List.flatMap pm_sl1 (.ref b :: As)).length ≤ pm_ml Y') (hb : pm_ob b (pm_oc Y')) (hoc : pm_oc Y' < 13) (hst : As.reverse ++ .ref b :: rest = st)
    (kk : Px k 176 Y' 0 (pm_ent (pm_ml Y') (.ref b :: As)) [] (hp I J R) (fun r h' => h'.1 = 176 ∧ Px (k + 1) 176 Y (pc + 3) L (r.toList ++ rest) h' Q)) : Px (k + 1) 176 Y pc L st (hp I J R) Q := x_cv hi hz hk hl hc hfit (Nat.le_refl _) (Nat.le_refl _) hb.1 hoc hb.K hb.lt hst kk
theorem z_cs {idx len z : Nat} {x : Nat × Nat} {Y' : pm_M} {As rest : List Value} (hi : pm_ins Y pc = some (.invokestatic idx, len, z, x)) (hz : pm_mz z = some Y') (hk : pm_kd Y' = 1) (hl : As.length = pm_np Y') (hc : pm_cats rest ≤ 8) (hfit : (List.flatMap pm_sl1 As).length ≤ pm_ml Y') (hst : As.reverse ++ rest = st)
    (kk : Px k 176 Y' 0 (pm_ent (pm_ml Y') As) [] (hp I J R) (fun r h' => h'.1 = 176 ∧ Px (k + 1) 176 Y (pc + 3) L (r.toList ++ rest) h' Q)) : Px (k + 1) 176 Y pc L st (hp I J R) Q := x_cs hi hz hk hl hc hfit (Nat.le_refl _) (Nat.le_refl _) hst kk
theorem z_tl (q : Nat) {idx len a : Nat} {x : Nat × Nat} (hi : pm_ins Y pc = some (.invokevirtual idx, len, 1000, x)) (h3 : 3 ≤ a ∧ a < 11) (hc : pm_cats st ≤ 8) (hq : pc + len = q) (hk : Px (k + 4) 176 Y q L (.int (Int32.ofNat (pm_txt a).length) :: st) (hp I J R) Q) : Px (k + 4) 176 Y pc L (.ref a :: st) (hp I J R) Q := x_tl q hi h3.1 h3.2 hc (by omega) (Nat.le_refl _) hq hk
theorem z_tc (q : Nat) {idx len a : Nat} {x : Nat × Nat} {j : Int32} (hi : pm_ins Y pc = some (.invokevirtual idx, len, 1001, x)) (h3 : 3 ≤ a ∧ a < 11) (hj : vp_in j (pm_txt a).length) (hc : pm_cats st ≤ 8) (hq : pc + len = q) (hk : Px (k + 4) 176 Y q L (.int ((pm_txt a).getD j.toNatClampNeg 0) :: st) (hp I J R) Q) : Px (k + 4) 176 Y pc L (.int j :: .ref a :: st) (hp I J R) Q := x_tc q hi h3.1 h3.2 hj hc (by omega) (Nat.le_refl _) hq hk
/-- a switch from 0 on -/
theorem z_sw (n : Nat) {d : Int} {offs : Array Int} {len dt : Nat} {x : Nat × Nat × Nat} {v : Int32} (hI : pm_ins Y pc = some (.tableswitch d 0 (n : Int) offs, len, x)) (hd : (pc : Int) + d = (dt : Int)) (hn : n < 1000) (hin : ∀ i : Nat, i < n + 1 → v = nI i → ∃ (off : Int) (tgt : Nat), offs[i]? = some off ∧ (pc : Int) + off = (tgt : Int) ∧ Px k 176 Y tgt L st (hp I J R) Q) (hout : (v < 0 ∨ nI n < v) → Px k 176 Y dt L st (hp I J R) Q) : Px k 176 Y pc L (.int v :: st) (hp I J R) Q := by
  by_cases h0 : v < 0
  · refine x_to dt hI (Or.inl ?_) hd (hout (Or.inl h0))
    have := Int32.lt_iff_toInt_lt.mp h0
    simpa using this
  · by_cases h1 : nI n < v
    · refine x_to dt hI (Or.inr ?_) hd (hout (Or.inr h1))
      have := Int32.lt_iff_toInt_lt.mp h1
      rw [nI_toInt (by omega)] at this
      exact this
    · obtain ⟨j, hj, rfl⟩ := nI_of h0
      have hjn : j ≤ n := by
        have := Int32.not_lt.mp h1
        rw [Int32.le_iff_toInt_le, nI_toInt hj, nI_toInt (by omega)] at this
        omega
      obtain ⟨off, tgt, o1, o2, o3⟩ := hin j (by omega) rfl
      refine x_ti tgt hI ?_ ?_ ?_ o2 o3
      · rw [nI_toInt hj]; omega
      · rw [nI_toInt hj]; omega
      · rw [nI_toInt hj]
        have : ((j : Int) - 0).toNat = j := by omega
        rw [this]; exact o1
end ZRules
