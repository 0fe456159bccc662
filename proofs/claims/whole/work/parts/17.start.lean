theorem pm_closed (g : pm_G) (l : Launch) : pm_Cl (pm_Sim g l) :=
  ⟨⟨sim_c0 g l, sim_c1 g l, sim_c2 g l, sim_c3 g l, sim_c4 g l, sim_c5 g l, sim_c6 g l, sim_c7 g l, sim_c8 g l, sim_c9 g l, sim_c10 g l, sim_c11 g l⟩,
   ⟨sim_c12 g l, sim_c13 g l, sim_c14 g l, sim_c15 g l, sim_c16 g l, sim_c17 g l, sim_c18 g l, sim_c19 g l, sim_c20 g l, sim_c21 g l, sim_c22 g l, sim_c23 g l, sim_c24 g l⟩,
   ⟨sim_c25 g l, sim_c26 g l, sim_c27 g l, sim_c28 g l, sim_c29 g l, sim_c30 g l, sim_c31 g l, sim_c32 g l, sim_c33 g l, sim_c34 g l, sim_c35 g l, sim_c36 g l⟩,
   ⟨sim_c37 g l, sim_c38 g l, sim_c39 g l, sim_c40 g l, sim_c41 g l, sim_c42 g l, sim_c43 g l, sim_c44 g l⟩⟩
def pm_tmL : List (String × Nat) := [("PaperHouse$Rolls", 53), ("PaperHouse$Rolls", 94), ("PaperHouse$Folding", 47), ("PaperHouse$Folding", 63), ("PaperHouse$Plates", 34), ("PaperHouse$Plates", 36), ("PaperHouse$Pile", 41), ("PaperHouse$Pile", 43)]
def pm_tm (i : Nat) : Term := .string (pm_tmL.getD i ("", 0)).1 (pm_tmL.getD i ("", 0)).2
abbrev pm_th : Term := .static "PaperHouse$Plates" "THRESHOLDS" "[I"
abbrev pm_fw : Term := .static "PaperHouse$TypeRoom" "FIRST_WIDTHS" "[I"
abbrev pm_fl : List Cond := flatC (Jvm.Cond.and given_1 narrow_1)
theorem fl_th : Cond.arrayOf pm_th .int ∈ pm_fl ∧ Cond.eq (.length pm_th) (.int 16) ∈ pm_fl := by decide +kernel
theorem fl_the : ∀ j, j < 16 → Cond.eq (.elem pm_th (.int (Int32.ofNat j))) (.int (pm_con 1 j)) ∈ pm_fl := by decide +kernel
theorem fl_fw : Cond.arrayOf pm_fw .int ∈ pm_fl ∧ Cond.eq (.length pm_fw) (.int 26) ∈ pm_fl := by decide +kernel
theorem fl_fwe : ∀ j, j < 26 → Cond.eq (.elem pm_fw (.int (Int32.ofNat j))) (.int (pm_con 2 j)) ∈ pm_fl := by decide +kernel
theorem fl_cs : Cond.eq (.static "java/lang/String" "COMPACT_STRINGS" "Z") (.int 1) ∈ pm_fl ∧ Cond.isRef (.static "jdk/internal/util/Preconditions" "SIOOBE_FORMATTER" "Ljava/util/function/BiFunction;") ∈ pm_fl := by decide +kernel
theorem fl_s1 : ∀ i, i < 8 → Cond.exactly (pm_tm i) "java/lang/String" ∈ pm_fl := by decide +kernel
theorem fl_s2 : ∀ i, i < 8 → Cond.eq (.field (pm_tm i) "java/lang/String" "coder" "B") (.int 0) ∈ pm_fl := by decide +kernel
theorem fl_s3 : ∀ i, i < 8 → Cond.arrayOf (.field (pm_tm i) "java/lang/String" "value" "[B") .byte ∈ pm_fl := by decide +kernel
theorem fl_s4 : ∀ i, i < 8 → Cond.eq (.length (.field (pm_tm i) "java/lang/String" "value" "[B")) (.int (Int32.ofNat (pm_tlen.getD i 0))) ∈ pm_fl := by decide +kernel
theorem fl_s5 : ∀ i, i < 8 → ∀ j, j < pm_tlen.getD i 0 → Cond.eq (.elem (.field (pm_tm i) "java/lang/String" "value" "[B") (.int (Int32.ofNat j))) (.int ((pm_tbyt.getD i []).getD j 0)) ∈ pm_fl := by decide +kernel
theorem fl_s6 : ∀ i, i < 8 → ∀ j, j < 8 → i ≠ j → (Cond.not (Cond.eq (pm_tm i) (pm_tm j)) ∈ pm_fl ∨ Cond.not (Cond.eq (pm_tm j) (pm_tm i)) ∈ pm_fl) := by decide +kernel
theorem fl_q0 : Cond.eq (pm_tm 0) (.string "PaperHouseModel" 271) ∈ pm_fl := by decide +kernel
theorem fl_q1 : Cond.eq (pm_tm 1) (.string "PaperHouseModel" 280) ∈ pm_fl := by decide +kernel
theorem fl_q2 : Cond.eq (pm_tm 2) (.string "PaperHouseModel" 310) ∈ pm_fl := by decide +kernel
theorem fl_q3 : Cond.eq (pm_tm 3) (.string "PaperHouseModel" 315) ∈ pm_fl := by decide +kernel
theorem fl_q4 : Cond.eq (pm_tm 4) (.string "PaperHouseModel" 339) ∈ pm_fl := by decide +kernel
theorem fl_q5 : Cond.eq (pm_tm 5) (.string "PaperHouseModel" 341) ∈ pm_fl := by decide +kernel
theorem fl_q6 : Cond.eq (pm_tm 6) (.string "PaperHouseModel" 421) ∈ pm_fl := by decide +kernel
theorem fl_q7 : Cond.eq (pm_tm 7) (.string "PaperHouseModel" 423) ∈ pm_fl := by decide +kernel
theorem pm_eqT {args : Array Value} {s : State} {a b : Term} {v : Value} (h : (Cond.eq a b).before args s = true) (ha : a.eval args s none [] s = some v) : b.eval args s none [] s = some v := by
  obtain ⟨y, h1, h2⟩ := Cond.eq_one h
  rw [ha] at h1
  rw [← h1] at h2
  exact h2
theorem pm_eqT' {args : Array Value} {s : State} {a b : Term} {v : Value} (h : (Cond.eq b a).before args s = true) (ha : a.eval args s none [] s = some v) : b.eval args s none [] s = some v := by
  obtain ⟨y, h1, h2⟩ := Cond.eq_one h
  rw [ha] at h2
  rw [← h2] at h1
  exact h1
theorem pm_start {p : Program} {s : State} {m : MethodId} {meth : Method} {c : Code} {b L : Nat} {xs : Nat → Int32} (hL : L ≤ 384) (C0 : lw_At p s m meth c b L xs) : ∃ g : pm_G, pg_b g = s.heap.size ∧ pg_H g = s.heap ∧ pg_x g = xs ∧ pg_L g = L ∧ pg_c g 0 = b ∧ pm_Fx g s := by
  obtain ⟨hx, hb, hr, hml, hown, hts0, hX, hbl, hlk, hgv⟩ := C0
  have hts : ∀ w ∈ pm_big, w.before #[Value.ref b] s = true := fun w hw => hts0 w (List.mem_filter.mp hw).1
  have hs := flat_of_before _ hgv
  have hA : ∀ a : Nat, a < s.heap.size → ¬ (fun q => s.heap.size ≤ q) a := fun a ha hz => by have hz : s.heap.size ≤ a := hz; omega
  have hcls : ∀ ci : Nat, ∃ q : ClassId × (Nat → Nat), ci < 13 → u_Kn s (pm_cn ci) (pm_cT ci) (pm_cN ci) q.1 q.2 := by
    intro ci
    by_cases h : ci < 13
    · obtain ⟨cC, iS, hK⟩ := u_known hts (pm_inX h) (hts _ (pm_lpin h).1)
      exact ⟨(cC, iS), fun _ => hK⟩
    · exact ⟨(0, fun _ => 0), fun z => absurd z h⟩
  obtain ⟨dD, hdD⟩ := Classical.axiomOfChoice hcls
  obtain ⟨ai, ki, mi, i1, i2, i3⟩ := Cond.arrayClass_spec (hts _ ac_i)
  obtain ⟨az, kz, mz, z1, z2, z3⟩ := Cond.arrayClass_spec (hts _ ac_z)
  obtain ⟨al, kl, ml, l1, l2, l3⟩ := Cond.arrayClass_spec (hts _ ac_l)
  have hao : (Cond.arrayOver (.object "PaperHouse$TypeLine")).before #[Value.ref b] s = true := hts0 _ (tb_get (p := 240) (by decide +kernel))
  obtain ⟨mr, ar, kr, r1, -, r2, r3, r4⟩ := Cond.arrayOver_spec hao
  obtain ⟨t1, e1, T1⟩ := va_Tof (tm := pm_th) (ty := .int) (N := 16) (f := fun j => .int (pm_con 1 j)) (A := fun q => s.heap.size ≤ q) (by decide) (hs _ fl_th.1) (va_eqt (hs _ fl_th.2)) (fun j hj => va_eqt (hs _ (fl_the j hj))) hA
  obtain ⟨t2, e2, T2⟩ := va_Tof (tm := pm_fw) (ty := .int) (N := 26) (f := fun j => .int (pm_con 2 j)) (A := fun q => s.heap.size ≤ q) (by decide) (hs _ fl_fw.1) (va_eqt (hs _ fl_fw.2)) (fun j hj => va_eqt (hs _ (fl_fwe j hj))) hA
  obtain ⟨adK, adV, hS, hE⟩ := vk_Sof (N := 8) (tm := pm_tm) (len := pm_tlen) (byt := pm_tbyt) (A := fun q => s.heap.size ≤ q) (by decide) (fun i hi => hs _ (fl_s1 i hi)) (fun i hi => hs _ (fl_s2 i hi)) (fun i hi => hs _ (fl_s3 i hi)) (fun i hi => hs _ (fl_s4 i hi)) (fun i hi j hj => hs _ (fl_s5 i hi j hj)) (fun i j hi hj hij => (fl_s6 i hi j hj hij).elim (fun z => Or.inl (hs _ z)) (fun z => Or.inr (hs _ z))) hA
  have Z1 := va_Zof (A := fun q => s.heap.size ≤ q) (hts0 _ (tb_get (p := 837) (by decide +kernel))) (hts _ (pm_in (tb_get (p := 6) (by decide +kernel)) rfl)) e1 hA
  have Z2 := va_Zof (A := fun q => s.heap.size ≤ q) (hts0 _ (tb_get (p := 238) (by decide +kernel))) (hts _ (pm_in (tb_get (p := 8) (by decide +kernel)) rfl)) e2 hA
  have Z3 := va_Zof (A := fun q => s.heap.size ≤ q) (hts0 _ (tb_get (p := 546) (by decide +kernel))) (hts _ (pm_in (tb_get (p := 15) (by decide +kernel)) rfl)) (va_eqi (hs _ fl_cs.1)) hA
  have Z4 := va_Zqof (A := fun q => s.heap.size ≤ q) (hts0 _ (tb_get (p := 566) (by decide +kernel))) (hts _ (pm_in (tb_get (p := 17) (by decide +kernel)) rfl)) (hs _ fl_cs.2) hA
  have hadc : (fun i => (if i + 3 = 0 then b else if i + 3 = 1 then t1 else if i + 3 = 2 then t2 else adK (i + 3 - 3))) = adK := by
    funext i
    rw [if_neg (by omega), if_neg (by omega), if_neg (by omega), Nat.add_sub_cancel]
  have hlt1 : t1 < s.heap.size := by obtain ⟨cell, q, -⟩ := T1; exact (Array.getElem?_eq_some_iff.mp q).1
  have hlt2 : t2 < s.heap.size := by obtain ⟨cell, q, -⟩ := T2; exact (Array.getElem?_eq_some_iff.mp q).1
  refine ⟨(s.heap.size, fun i => if i = 0 then b else if i = 1 then t1 else if i = 2 then t2 else adK (i - 3), (fun ci => (dD ci).1, fun ci => (dD ci).2), (fun t => match t with | 0 => ai | 1 => az | 2 => al | _ => ar), s.heap, xs, L), rfl, rfl, rfl, rfl, rfl, ⟨fun ci q hq => ?_, fun t q hq => ?_⟩, fun i hi => ?_, hX, hL, T1, T2, Z1, Z2, ⟨adV, ?_⟩, Z3, fun z hz => ?_, hao, Z4⟩
  · have hci : ci < 13 := by
      have := (List.getElem?_eq_some_iff.mp hq).1
      exact this
    rw [pm_cl_get hci] at hq
    cases hq
    exact hdD ci hci
  · match t, hq with
    | 0, hq => cases hq; exact ⟨fun n z => ⟨fun k h => (by cases h), ki, i2, mi, i3⟩, i1⟩
    | 1, hq => cases hq; exact ⟨fun n z => ⟨fun k h => (by cases h), kz, z2, mz, z3⟩, z1⟩
    | 2, hq => cases hq; exact ⟨fun n z => ⟨fun k h => (by cases h), kl, l2, ml, l3⟩, l1⟩
    | 3, hq => cases hq; exact ⟨fun n z => ⟨fun k h => (by cases h), kr, r2, mr, r3⟩, ⟨kr, mr, r2, r3, r1, r4⟩⟩
    | n + 4, hq => simp [pm_tys] at hq
  · show (if i = 0 then b else if i = 1 then t1 else if i = 2 then t2 else adK (i - 3)) < s.heap.size
    split
    · exact hbl
    · split
      · exact hlt1
      · split
        · exact hlt2
        · obtain ⟨cell, q, -⟩ := (hS.1 (i - 3) (by omega)).1
          exact (Array.getElem?_eq_some_iff.mp q).1
  · show vk_S 8 pm_tlen pm_tbyt (fun i => (if i + 3 = 0 then b else if i + 3 = 1 then t1 else if i + 3 = 2 then t2 else adK (i + 3 - 3))) adV _ s s.heap
    rw [hadc]
    exact hS
  · have key : ∀ (o : String) (k i : Nat) (tx : String), (Cond.stringRef o k tx).before #[Value.ref b] s = true → (Term.string o k).eval #[Value.ref b] s none [] s = some (.ref (adK i)) → vk_R o k tx (if i + 3 = 0 then b else if i + 3 = 1 then t1 else if i + 3 = 2 then t2 else adK (i + 3 - 3)) s := by
      intro o k i tx g1 g2
      rw [if_neg (by omega), if_neg (by omega), if_neg (by omega), Nat.add_sub_cancel]
      exact vk_R.of g1 g2
    simp only [pm_ls, List.mem_cons, List.not_mem_nil, or_false] at hz
    rcases hz with rfl | rfl | rfl | rfl | rfl | rfl | rfl | rfl | rfl | rfl | rfl | rfl | rfl | rfl | rfl | rfl
    · exact key "PaperHouse$Rolls" 53 0 "roll" (hts0 _ (tb_get (p := 510) (by decide +kernel))) (hE 0 (by decide))
    · exact key "PaperHouse$Rolls" 94 1 "cut" (hts0 _ (tb_get (p := 618) (by decide +kernel))) (hE 1 (by decide))
    · exact key "PaperHouse$Folding" 47 2 "sheet" (hts0 _ (tb_get (p := 693) (by decide +kernel))) (hE 2 (by decide))
    · exact key "PaperHouse$Folding" 63 3 "fold" (hts0 _ (tb_get (p := 702) (by decide +kernel))) (hE 3 (by decide))
    · exact key "PaperHouse$Plates" 34 4 "box" (hts0 _ (tb_get (p := 784) (by decide +kernel))) (hE 4 (by decide))
    · exact key "PaperHouse$Plates" 36 5 "line" (hts0 _ (tb_get (p := 785) (by decide +kernel))) (hE 5 (by decide))
    · exact key "PaperHouse$Pile" 41 6 "x" (hts0 _ (tb_get (p := 1085) (by decide +kernel))) (hE 6 (by decide))
    · exact key "PaperHouse$Pile" 43 7 "y" (hts0 _ (tb_get (p := 1086) (by decide +kernel))) (hE 7 (by decide))
    · exact key "PaperHouseModel" 271 0 "roll" (hts0 _ (tb_get (p := 1689) (by decide +kernel))) (pm_eqT (hs _ fl_q0) (hE 0 (by decide)))
    · exact key "PaperHouseModel" 280 1 "cut" (hts0 _ (tb_get (p := 1733) (by decide +kernel))) (pm_eqT (hs _ fl_q1) (hE 1 (by decide)))
    · exact key "PaperHouseModel" 310 2 "sheet" (hts0 _ (tb_get (p := 1760) (by decide +kernel))) (pm_eqT (hs _ fl_q2) (hE 2 (by decide)))
    · exact key "PaperHouseModel" 315 3 "fold" (hts0 _ (tb_get (p := 1765) (by decide +kernel))) (pm_eqT (hs _ fl_q3) (hE 3 (by decide)))
    · exact key "PaperHouseModel" 339 4 "box" (hts0 _ (tb_get (p := 1798) (by decide +kernel))) (pm_eqT (hs _ fl_q4) (hE 4 (by decide)))
    · exact key "PaperHouseModel" 341 5 "line" (hts0 _ (tb_get (p := 1799) (by decide +kernel))) (pm_eqT (hs _ fl_q5) (hE 5 (by decide)))
    · exact key "PaperHouseModel" 421 6 "x" (hts0 _ (tb_get (p := 1920) (by decide +kernel))) (pm_eqT (hs _ fl_q6) (hE 6 (by decide)))
    · exact key "PaperHouseModel" 423 7 "y" (hts0 _ (tb_get (p := 1921) (by decide +kernel))) (pm_eqT (hs _ fl_q7) (hE 7 (by decide)))
def pm_h0 (xs : Nat → Int32) (L : Nat) : pm_H := (16, (fun a => cond (Nat.beq a 0) xs (fun _ => 0)), (fun a => cond (Nat.beq a 0) (fun _ => Int64.ofNat L) (fun _ => 0)), fun _ _ => .null)
/-- the claim out of the pure run of the law -/
theorem pm_whole (hp : ∀ (xs : Nat → Int32) (L : Nat), L ≤ 384 → Px 800 176 m_La_law 0 [.ref 0, .null, .null, .null] [] (pm_h0 xs L) (fun r h => r = some (.int 1) ∧ h.1 = 176)) {p : Program} {e : Env} {s : State} {m : MethodId} {below : List Frame} {meth : Method} {c : Code} (l : Launch) {b L : Nat} {xs : Nat → Int32} (hL : L ≤ 384) (C0 : lw_At p s m meth c b L xs) : W p l e room_1 s m #[Value.ref b] below meth c s.heap [] 0 0 (lw_Z below #[Value.ref b] s) (entryFrame m ([Value.ref b] : List Value).toArray 4) := by
  obtain ⟨g, g1, g2, g3, g4, g5, hF⟩ := pm_start hL C0
  obtain ⟨hx, hb, hr, hml, hown, hts0, hX, hbl, hlk, hgv⟩ := C0
  have hts : ∀ w ∈ pm_big, w.before #[Value.ref b] s = true := fun w hw => hts0 w (List.mem_filter.mp hw).1
  have hP := hp xs L hL (pm_Sim g l) (pm_closed g l)
  have had : pm_rv g (.ref 0) = .ref b := by
    show Value.ref (pm_ad g 0) = _
    rw [pm_ad_lo (by decide), g5]
  have hLc := pm_ent_Lc g [.ref 0] (n := 4) (Nat.le_of_ble_eq_true rfl)
  rw [show ([.ref 0] : List Value).map (pm_rv g) = [.ref b] from congrArg (fun z => [z]) had] at hLc
  rw [lg_entry_eq]
  have hR : pm_Rep g (pm_h0 xs L) s.heap := by
    refine ⟨Nat.le_refl _, by rw [g1]; rfl, fun q _ => by rw [g2], ⟨g3.symm, by rw [g4]; rfl⟩, fun i hi hi2 => ?_⟩
    have hi2 : i < 16 := hi2
    unfold pm_K at hi
    omega
  have hC : pm_Cx g m_La_law 800 176 16 p room_1 s m #[Value.ref b] meth c := ⟨hx, hb, hml, hr, hlk, hown, fun z => absurd z (by decide), hts, hF, ⟨okC_La_law, okL_La_law⟩, by decide, by decide, by decide, by decide +kernel⟩
  have hw := hP p e room_1 s m #[Value.ref b] below meth c s.heap [] _ 16 (lw_Z below #[Value.ref b] s) hC hR hLc (Nat.le_refl _) (fun q hq => by cases hq) ?_
  · exact hw
  · intro pc ls H locs r h hq hrok hR' hn' hlo
    obtain ⟨rfl, h176⟩ := hq
    rw [h176]
    rcases hrok with ⟨v, len, x, hv, hi, hrt⟩ | ⟨v, len, x, hv, hi, hrt⟩ | ⟨len, x, hv, hi, hrt⟩
    · cases hv
      obtain ⟨hd, -, hlen⟩ := pm_dec (q := (.ireturn, len, x)) ⟨okC_La_law, okL_La_law⟩ hi
      have hlen := len_e hlen
      subst hlen
      refine W.widen (k := 600000) (n := 7302250) ?_ ?_ ?_
      · decide
      · decide +kernel
      · show W p l e room_1 s m #[Value.ref b] below meth c H ([] ++ locs) 600000 7302250 (lw_Z below #[Value.ref b] s) (F0 m pc ls [.int 1])
        exact W.forget (fun q hq => by rw [← g1]; exact hlo q hq) (lw_ret hx hb hr hlk hd)
    · cases hv
    · cases hv
