theorem pm_ad_lo {g : pm_G} {i : Nat} (h : i < pm_K) : pm_ad g i = pg_c g i := if_pos h
theorem pm_Rep.lo {g : pm_G} {h : pm_H} {H : Heap} (hR : pm_Rep g h H) {q : Nat} (hq : q < pg_b g) : H[q]? = (pg_H g)[q]? := hR.2.2.1 q hq
theorem sim_c25 (g : pm_G) (l : Launch) : pm_c25 (pm_Sim g l) := by
  intro k N Y pc L st h Q len x hi hP p e R s m args below meth c H locs ls n0 Qw hC hR hL hn hlo hret
  have hW := hP p e R s m args below meth c H locs ls n0 Qw hC hR hL hn hlo hret
  obtain ⟨hd, -, hlen⟩ := pm_dec hC.2.2.2.2.2.2.2.2.2.1 hi
  have hlen := len_e hlen
  subst hlen
  obtain ⟨-, hlt, ⟨scr, s1, s2, s3, s4, s5⟩, -⟩ := hC.2.2.2.2.2.2.2.2.1
  have h0 : pm_ad g 0 = pg_c g 0 := pm_ad_lo (by decide)
  refine W.alen (cell := scr) hC.1 hC.2.1 (by show H[pm_ad g 0]? = _; rw [h0, hR.lo (hlt 0 (by omega))]; exact s1) s2 ?_ rfl rfl hd hW
  rw [s4, hR.2.2.2.1.2]
  exact (lN_i (pg_L g)).symm
theorem sim_c26 (g : pm_G) (l : Launch) : pm_c26 (pm_Sim g l) := by
  intro k N Y pc L st h Q len x j hi hj hP p e R s m args below meth c H locs ls n0 Qw hC hR hL hn hlo hret
  have hW := hP p e R s m args below meth c H locs ls n0 Qw hC hR hL hn hlo hret
  obtain ⟨hd, -, hlen⟩ := pm_dec hC.2.2.2.2.2.2.2.2.2.1 hi
  have hlen := len_e hlen
  subst hlen
  obtain ⟨-, hlt, ⟨scr, s1, s2, s3, s4, s5⟩, hL384, -⟩ := hC.2.2.2.2.2.2.2.2.1
  have h0 : pm_ad g 0 = pg_c g 0 := pm_ad_lo (by decide)
  have hLn : (h.2.2.1 0 0).toInt.toNat = pg_L g := by
    rw [hR.2.2.2.1.2]
    have := lN_toInt (n := pg_L g) (by omega)
    unfold lN at this
    rw [this]; omega
  rw [hLn] at hj
  exact W.iald (cell := scr) (v := .int (h.2.1 0 j.toNatClampNeg)) hC.1 hC.2.1 (by show H[pm_ad g 0]? = _; rw [h0, hR.lo (hlt 0 (by omega))]; exact s1) s2 s3 (by rw [s4]; exact hj) (by rw [s5 _ (pm_inl hj), hR.2.2.2.1.1]) rfl rfl hd hW
theorem sim_c27 (g : pm_G) (l : Launch) : pm_c27 (pm_Sim g l) := by
  intro k N Y pc L st h Q len x a j hi ha hj hP p e R s m args below meth c H locs ls n0 Qw hC hR hL hn hlo hret
  have hW := hP p e R s m args below meth c H locs ls n0 Qw hC hR hL hn hlo hret
  obtain ⟨hd, -, hlen⟩ := pm_dec hC.2.2.2.2.2.2.2.2.2.1 hi
  have hlen := len_e hlen
  subst hlen
  obtain ⟨-, hlt, -, hL384, ⟨c1, s1, s2, s3, s4, s5, s6, s7⟩, ⟨c2, t1, t2, t3, t4, t5, t6, t7⟩, -⟩ := hC.2.2.2.2.2.2.2.2.1
  have hj0 : ¬ j < 0 := fun z => hj (Or.inl z)
  have hjl := pm_inl hj
  rcases ha with rfl | rfl
  · have h0 : pm_ad g 1 = pg_c g 1 := pm_ad_lo (by decide)
    have hjl : j.toNatClampNeg < 16 := hjl
    exact W.iald (cell := c1) (v := .int (pm_con 1 j.toNatClampNeg)) hC.1 hC.2.1 (by show H[pm_ad g 1]? = _; rw [h0, hR.lo (hlt 1 (by omega))]; exact s1) s2 s3 (fun z => z.elim hj0 (fun z => by omega)) (s6 _ hjl) rfl rfl hd hW
  · have h0 : pm_ad g 2 = pg_c g 2 := pm_ad_lo (by decide)
    have hjl : j.toNatClampNeg < 26 := hjl
    exact W.iald (cell := c2) (v := .int (pm_con 2 j.toNatClampNeg)) hC.1 hC.2.1 (by show H[pm_ad g 2]? = _; rw [h0, hR.lo (hlt 2 (by omega))]; exact t1) t2 t3 (fun z => z.elim hj0 (fun z => by omega)) (t6 _ hjl) rfl rfl hd hW
theorem pm_gets {g : pm_G} {l : Launch} {p : Program} {e : Env} {R : Room} {s : State} {m : MethodId} {args : Array Value} {below : List Frame} {meth : Method} {c : Code} {H : Heap} {locs : List Loc} {cells slots : Nat} {Q : State → Prop} {cc : ByteArray} {pc : Nat} {ls : Array Slot} {rest : List Value} {C n d own ref : String} {v : Value} {index : Nat}
    (hexec : p.tables.exec = Jvm.exec) (hb : c.code = cc) (hZ : va_Z C n d v (fun q => pg_b g ≤ q) s (pg_H g)) (hlo : ∀ q, q < pg_b g → H[q]? = (pg_H g)[q]?) (hown : s.vm.findClass own = some m.cls) (hlink : (Cond.fieldLink own index ref n d).before args s = true) (hsame : C = ref) (hdg : decode cc pc = .ok (.getstatic index, 3))
    (kk : W p l e R s m args below meth c H locs cells slots Q (F0 m (pc + 3) ls (v :: rest))) : W p l e R s m args below meth c H locs cells slots Q (F0 m pc ls rest) := by
  obtain ⟨cf, kf, fi, f, a, cell, h1, h2, h3, h4, h5, h6, h7, h8⟩ := hZ
  subst hsame
  exact W.gets hexec hb hown hlink h1 h2 h3 h4 (by rw [hlo a (by omega)]; exact h5) (fun e => by rw [e] at h6; cases h6) h7 rfl hdg kk
theorem gs_1 : Cond.fieldLink "PaperHouse$Plates" 103 "PaperHouse$Plates" "THRESHOLDS" "[I" ∈ pm_big := pm_in (tb_get (p := 836) (by decide +kernel)) rfl
theorem gs_2 : Cond.fieldLink "PaperHouse$TypeRoom" 21 "PaperHouse$TypeRoom" "FIRST_WIDTHS" "[I" ∈ pm_big := pm_in (tb_get (p := 237) (by decide +kernel)) rfl
theorem sim_c28 (g : pm_G) (l : Launch) : pm_c28 (pm_Sim g l) := by
  intro k N Y pc L st h Q idx len t x hi hP p e R s m args below meth c H locs ls n0 Qw hC hR hL hn hlo hret
  have hW := hP p e R s m args below meth c H locs ls n0 Qw hC hR hL hn hlo hret
  obtain ⟨hd, hok, hlen⟩ := pm_dec hC.2.2.2.2.2.2.2.2.2.1 hi
  have hlen := len_e hlen
  subst hlen
  obtain ⟨hx, hb, hml, hr, hlk, hown, hin, hts, hF, -⟩ := hC
  obtain ⟨-, hlt, -, -, -, -, hz1, hz2, -⟩ := hF
  simp only [pm_okI, Bool.or_eq_true, decide_eq_true_eq, Prod.mk.injEq] at hok
  rcases hok with ⟨h1, h2, h3⟩ | ⟨h1, h2, h3⟩
  · subst h2; subst h3
    have h0 : pm_rv g (.ref 1) = .ref (pg_c g 1) := congrArg Value.ref (pm_ad_lo (by decide))
    have hW : W p l e R s m args below meth c H locs (h.1 - n0) (pm_sz h.1 - pm_sz n0) Qw (F0 m (pc + 3) ls (pm_rv g (.ref 1) :: st.map (pm_rv g))) := hW
    rw [h0] at hW
    rw [h1] at hown
    exact pm_gets hx hb hz1 hR.2.2.1 hown (hts _ gs_1) rfl hd hW
  · subst h2; subst h3
    have h0 : pm_rv g (.ref 2) = .ref (pg_c g 2) := congrArg Value.ref (pm_ad_lo (by decide))
    have hW : W p l e R s m args below meth c H locs (h.1 - n0) (pm_sz h.1 - pm_sz n0) Qw (F0 m (pc + 3) ls (pm_rv g (.ref 2) :: st.map (pm_rv g))) := hW
    rw [h0] at hW
    rw [h1] at hown
    exact pm_gets hx hb hz2 hR.2.2.1 hown (hts _ gs_2) rfl hd hW
theorem pm_lkin {oc idx v : Nat} (h : (pm_lk.any fun z => decide (z.1 = (oc, idx, v))) = true) : Cond.constant (pm_cn oc) idx (Int32.ofNat v) ∈ pm_big := by
  obtain ⟨z, hz, e⟩ := List.any_eq_true.mp h
  have e := of_decide_eq_true e
  have h2 := List.all_eq_true.mp pm_lk_ok z hz
  simp only [decide_eq_true_eq, e] at h2
  exact pm_in (tb_get h2) rfl
theorem pm_llin {oc idx v : Nat} (h : (pm_ll.any fun z => decide (z.1 = (oc, idx, v))) = true) : Cond.constantLong (pm_cn oc) idx (Int64.ofNat v) ∈ pm_big := by
  obtain ⟨z, hz, e⟩ := List.any_eq_true.mp h
  have e := of_decide_eq_true e
  have h2 := List.all_eq_true.mp pm_ll_ok z hz
  simp only [decide_eq_true_eq, e] at h2
  exact pm_in (tb_get h2) rfl
theorem sim_c29 (g : pm_G) (l : Launch) : pm_c29 (pm_Sim g l) := by
  intro k N Y pc L st h Q i idx len v x hi hl hP p e R s m args below meth c H locs ls n0 Qw hC hR hL hn hlo hret
  have hW := hP p e R s m args below meth c H locs ls n0 Qw hC hR hL hn hlo hret
  obtain ⟨hd, hok, hlen⟩ := pm_dec hC.2.2.2.2.2.2.2.2.2.1 hi
  obtain ⟨hx, hb, hml, hr, hlk, hown, hin, hts, hF, -⟩ := hC
  rcases hl with rfl | rfl
  · have hlen := len_e hlen
    subst hlen
    exact lv_ldc hx hb hown (hts _ (pm_lkin hok)) hd hW
  · have hlen := len_e hlen
    subst hlen
    exact lv_ldcw hx hb hown (hts _ (pm_lkin hok)) hd hW
theorem sim_c30 (g : pm_G) (l : Launch) : pm_c30 (pm_Sim g l) := by
  intro k N Y pc L st h Q idx len v x t hi hP p e R s m args below meth c H locs ls n0 Qw hC hR hL hn hlo hret
  have hW := hP p e R s m args below meth c H locs ls n0 Qw hC hR hL hn hlo hret
  obtain ⟨hd, hok, hlen⟩ := pm_dec hC.2.2.2.2.2.2.2.2.2.1 hi
  obtain ⟨hx, hb, hml, hr, hlk, hown, hin, hts, hF, -⟩ := hC
  have hlen := len_e hlen
  subst hlen
  exact lv_ldc2 hx hb hown (hts _ (pm_llin hok)) hd hW
theorem pm_lsin {oc idx v : Nat} (h : (pm_ls.any fun z => decide (z = (oc, idx, v))) = true) : (oc, idx, v) ∈ pm_ls := by
  obtain ⟨z, hz, e⟩ := List.any_eq_true.mp h
  rw [← of_decide_eq_true e]; exact hz
theorem pm_ls_lt : ∀ z ∈ pm_ls, z.2.2 < 16 := by decide
theorem sim_c31 (g : pm_G) (l : Launch) : pm_c31 (pm_Sim g l) := by
  intro k N Y pc L st h Q i idx len v x hi hl hP p e R s m args below meth c H locs ls n0 Qw hC hR hL hn hlo hret
  have hW := hP p e R s m args below meth c H locs ls n0 Qw hC hR hL hn hlo hret
  obtain ⟨hd, hok, hlen⟩ := pm_dec hC.2.2.2.2.2.2.2.2.2.1 hi
  obtain ⟨hx, hb, hml, hr, hlk, hown, hin, hts, hF, -⟩ := hC
  obtain ⟨-, hlt, -, -, -, -, -, -, -, -, hvk, -⟩ := hF
  have hW : W p l e R s m args below meth c H locs (h.1 - n0) (pm_sz h.1 - pm_sz n0) Qw (F0 m (pc + len) ls (pm_rv g (.ref v) :: st.map (pm_rv g))) := hW
  rcases hl with rfl | rfl
  · have hlen := len_e hlen
    subst hlen
    have hm : (pm_oc Y, idx, v) ∈ pm_ls := pm_lsin hok
    rw [show pm_rv g (.ref v) = .ref (pg_c g v) from congrArg Value.ref (pm_ad_lo (pm_ls_lt (pm_oc Y, idx, v) hm))] at hW
    have hz : vk_R (pm_cn (pm_oc Y)) idx (pm_ttx.getD (v - 3) "") (pg_c g v) s := hvk (pm_oc Y, idx, v) hm
    exact va_ldcS (own := pm_cn (pm_oc Y)) (index := idx) (q := pg_c g v) hx hb hown hz hd hW
  · have hlen := len_e hlen
    subst hlen
    have hm : (pm_oc Y, idx, v) ∈ pm_ls := pm_lsin hok
    rw [show pm_rv g (.ref v) = .ref (pg_c g v) from congrArg Value.ref (pm_ad_lo (pm_ls_lt (pm_oc Y, idx, v) hm))] at hW
    have hz : vk_R (pm_cn (pm_oc Y)) idx (pm_ttx.getD (v - 3) "") (pg_c g v) s := hvk (pm_oc Y, idx, v) hm
    obtain ⟨z1, z2⟩ := hz
    intro T hT X
    obtain ⟨t, a1, b1⟩ := hW T hT X
    exact ⟨t, X.ldcStringW hx hown (text := pm_ttx.getD (v - 3) "") (a := pg_c g v) z1 z2 (g := F0 m pc ls (st.map (pm_rv g))) rfl (by rw [hb]; exact hd) t a1, b1⟩
/-! new cells -/
theorem pm_z_o {h : pm_H} {i : Nat} (hi : i ≠ h.1) : pm_val (pm_z h) i = pm_val h i := by
  have hz := nb_f hi
  funext j; simp only [pm_val, pm_rd, pm_z, hz, cond_false]
theorem pm_Rep.new {g : pm_G} {h : pm_H} {H H' : Heap} (hR : pm_Rep g h H) (hz : H'.size = H.size + 1) (hq : ∀ q, q < H.size → H'[q]? = H[q]?) (hc : pm_cell g (pm_z h) H' h.1) : pm_Rep g (pm_z h) H' := by
  obtain ⟨r1, r2, r3, r4, r5⟩ := hR
  have hne0 := nb_f (pm_0ne r1)
  refine ⟨by show pm_K ≤ h.1 + 1; omega, by rw [hz, r2]; show _ = _ + (h.1 + 1 - pm_K); omega, fun q hqb => ?_, ⟨?_, ?_⟩, fun i hiK hi => ?_⟩
  · rw [hq q (by omega)]; exact r3 q hqb
  · show cond (Nat.beq 0 h.1) _ _ = _; rw [hne0]; exact r4.1
  · show (cond (Nat.beq 0 h.1) _ (h.2.2.1 0)) 0 = _; rw [hne0]; exact r4.2
  · by_cases e : i = h.1
    · subst e; exact hc
    · have hi' : i < h.1 := by have : i < h.1 + 1 := hi; omega
      have hc0 := r5 i hiK hi'
      unfold pm_cell at hc0 ⊢
      have hne := hq (pm_ad g i) (by rw [pm_ad_hi hiK, r2]; omega)
      rw [pm_z_o e]
      split
      · rename_i hlt
        rw [if_pos hlt] at hc0
        exact hc0.kept hne
      · rename_i hlt
        rw [if_neg hlt] at hc0
        rw [hne]; exact hc0
theorem pm_z_v {h : pm_H} {k : Nat} : pm_val (pm_z h) h.1 k = (if (pm_sh h.1).1 < 100 then (match pm_fc (pm_sh h.1).1 k with | 0 => .int 0 | 3 => .int 0 | 1 => .long 0 | _ => .null) else if (pm_sh h.1).1 = 102 then .long 0 else if (pm_sh h.1).1 = 103 then .null else .int 0) := by
  have hz := nb_t h.1
  simp only [pm_val, pm_rd, pm_z, hz, cond_true]
  split
  · generalize pm_fc (pm_sh h.1).1 k = t
    match t with
    | 0 => rfl
    | 1 => rfl
    | 2 => rfl
    | 3 => rfl
    | n + 4 => rfl
  · rfl
/-- a cell has come: on with it -/
theorem pm_born {g : pm_G} {l : Launch} {k N : Nat} {Y : pm_M} {pc : Nat} {L st : List Value} {h : pm_H} {Q : Option Value → pm_H → Prop} {p : Program} {e : Env} {R : Room} {s : State} {m : MethodId} {args : Array Value} {below : List Frame} {meth : Method} {c : Code} {H H' : Heap} {locs : List Loc} {ls : Array Slot} {n0 : Nat} {Qw : State → Prop} {n : Nat}
    (hC : pm_Cx g Y k N n0 p R s m args meth c) (hR : pm_Rep g h H) (hL : pm_Lc g ls (pm_ml Y) L) (hn : n0 ≤ h.1) (hlo : ∀ q ∈ locs, pg_b g ≤ q.base) (hret : pm_Rt g l Y Q p e R s m args below meth c n0 Qw)
    (hz : H'.size = H.size + 1) (hq : ∀ q, q < H.size → H'[q]? = H[q]?) (hc : pm_cell g (pm_z h) H' h.1) (hnn : (pm_sh h.1).2 = n)
    (hP : pm_Sim g l k N Y pc L (.ref h.1 :: st) (pm_z h) Q) : W p l e R s m args below meth c H' locs (h.1 - n0 + 1) (pm_sz h.1 - pm_sz n0 + n) Qw (F0 m pc ls (.ref H.size :: st.map (pm_rv g))) := by
  have hw := hP p e R s m args below meth c H' locs ls n0 Qw hC (hR.new hz hq hc) hL (by show n0 ≤ h.1 + 1; omega) hlo hret
  have e1 : (pm_z h).1 - n0 = h.1 - n0 + 1 := by show h.1 + 1 - n0 = _; omega
  have e2 : pm_sz (pm_z h).1 - pm_sz n0 = pm_sz h.1 - pm_sz n0 + n := by
    show pm_sz h.1 + (pm_sh h.1).2 - pm_sz n0 = _
    have := pm_sz_le hn
    omega
  have e3 : pm_rv g (.ref h.1) = .ref H.size := by
    show Value.ref (pm_ad g h.1) = _
    rw [pm_ad_hi hR.1, hR.2.1]
  rw [e1, e2] at hw
  have hw : W p l e R s m args below meth c H' locs (h.1 - n0 + 1) (pm_sz h.1 - pm_sz n0 + n) Qw (F0 m pc ls (pm_rv g (.ref h.1) :: st.map (pm_rv g))) := hw
  rw [e3] at hw
  exact hw
theorem pm_clin {oc idx ci : Nat} (h : (pm_lc.any fun z => decide (z.1 = (oc, idx, ci))) = true) : Cond.classLink (pm_cn oc) idx (pm_cn ci) ∈ pm_big ∧ ci < 13 := by
  obtain ⟨z, hz, e⟩ := List.any_eq_true.mp h
  have e := of_decide_eq_true e
  have h2 := List.all_eq_true.mp pm_lc_ok z hz
  simp only [Bool.and_eq_true, decide_eq_true_eq, e, Nat.blt_eq] at h2
  exact ⟨pm_in (tb_get h2.1) rfl, h2.2⟩
theorem pm_lpin {ci : Nat} (h : ci < 13) : Cond.instantiable (pm_cn ci) (pm_cN ci) ∈ pm_big ∧ Cond.initialized (pm_cn ci) ∈ pm_big := by
  have h2 := List.all_eq_true.mp pm_lp_ok ci (List.mem_range.mpr h)
  simp only [Bool.and_eq_true, decide_eq_true_eq] at h2
  exact ⟨pm_in (tb_get h2.1) rfl, pm_in (tb_get h2.2) rfl⟩
theorem sim_c34 (g : pm_G) (l : Launch) : pm_c34 (pm_Sim g l) := by
  intro k N Y pc L st h Q idx len ci x hi hs hK hN hP p e R s m args below meth c H locs ls n0 Qw hC hR hL hn hlo hret
  have hC0 := hC
  obtain ⟨hd, hok, hlen⟩ := pm_dec hC.2.2.2.2.2.2.2.2.2.1 hi
  obtain ⟨hx, hb, hml, hr, hlk, hown, hin, hts, hF, -, hfr, hlc, hcl, hsl⟩ := hC
  have hlen := len_e hlen
  subst hlen
  obtain ⟨hlink, hci⟩ := pm_clin hok
  obtain ⟨hinst, hini⟩ := pm_lpin hci
  obtain ⟨hS, hfc, kC0, hkC0, hkind⟩ := hF.1.1 ci _ (pm_cl_get hci)
  have hszN : pm_sz h.1 + (pm_sh h.1).2 ≤ pm_sz N := pm_sz_le (a := h.1 + 1) hN
  have hszn := pm_sz_le hn
  rw [hs] at hszN
  have hszN : pm_sz h.1 + pm_cN ci ≤ pm_sz N := hszN
  refine W.newcK hx hb hown (hts _ hlink) (hts _ hinst) (hts _ hini) rfl hd (by omega) (by omega) hfc rfl (fun H' kC hkC e1 e2 e3 => ?_)
  refine pm_born hC0 hR hL hn hlo hret e2 e3 ?_ (by rw [hs]) hP
  unfold pm_cell
  rw [if_pos (by rw [hs]; show ci < 100; omega)]
  rw [hs]
  have hB := u_born (pm_tX ci) hts (pm_inX hci) ⟨hS, hfc, kC0, hkC0, hkind⟩ hkC (o := H.size) (H := H') e1 (pm_tX_ok hci)
  have had : pm_ad g h.1 = H.size := by rw [pm_ad_hi hR.1, hR.2.1]
  rw [had]
  refine hB.to (fun j hj => ?_)
  rw [pm_z_v, hs, if_pos (by show ci < 100; omega)]
  dsimp only
  rcases pm_fcT hci hj with ⟨z, z2⟩ | ⟨z, z2⟩ | ⟨z, z2⟩ | ⟨z, z2⟩
  · rw [z, z2]; rfl
  · rw [z, z2]; rfl
  · rw [z, z2]; rfl
  · rw [z]
    cases hty : pm_tX ci j <;> first | rfl | (rw [hty] at z2; simp [FieldType.isReference] at z2)
theorem ac_i : Cond.arrayClass .int ∈ pm_big := pm_in (tb_get (p := 51) (by decide +kernel)) rfl
theorem ac_z : Cond.arrayClass .boolean ∈ pm_big := pm_in (tb_get (p := 417) (by decide +kernel)) rfl
theorem ac_l : Cond.arrayClass .long ∈ pm_big := pm_in (tb_get (p := 330) (by decide +kernel)) rfl
theorem pm_newcell {g : pm_G} {h : pm_H} {H : Heap} (hR : pm_Rep g h H) {kd : Nat} {v : Value} (hs : (pm_sh h.1).1 = kd) (hkd : 100 ≤ kd) (hv : ∀ k, pm_val (pm_z h) h.1 k = v) (hr : pm_rv g v = v) :
    pm_cell g (pm_z h) (H.push { cls := pg_A g (kd - 100), slots := Array.replicate (pm_sh h.1).2 v, vm := .none }) h.1 := by
  unfold pm_cell
  rw [if_neg (by omega), hs, arrV_new]
  have had : pm_ad g h.1 = H.size := by rw [pm_ad_hi hR.1, hR.2.1]
  rw [had]
  have : (fun k => pm_rv g (pm_val (pm_z h) h.1 k)) = fun _ => v := by funext k; rw [hv k, hr]
  rw [this]
  simp
theorem sim_c35 (g : pm_G) (l : Launch) : pm_c35 (pm_Sim g l) := by
  intro k N Y pc L st h Q len x at' v hi hs hv hle hK hN hP p e R s m args below meth c H locs ls n0 Qw hC hR hL hn hlo hret
  have hC0 := hC
  obtain ⟨hd, hok, hlen⟩ := pm_dec hC.2.2.2.2.2.2.2.2.2.1 hi
  obtain ⟨hx, hb, hml, hr, hlk, hown, hin, hts, hF, -, hfr, hlc, hcl, hsl⟩ := hC
  have hlen := len_e hlen
  subst hlen
  have hszN : pm_sz h.1 + (pm_sh h.1).2 ≤ pm_sz N := pm_sz_le (a := h.1 + 1) hN
  have hszn := pm_sz_le hn
  have hcl2 : v.toNatClampNeg = (pm_sh h.1).2 := by rw [hv]; exact nI_clamp (by omega)
  have hpos : ¬ v < 0 := by rw [hv]; exact nI_pos (by omega)
  have hz2 : ∀ c0 : Cell, (H.push c0).size = H.size + 1 := fun c0 => by simp
  have hq2 : ∀ (c0 : Cell) (q : Nat), q < H.size → (H.push c0)[q]? = H[q]? := fun c0 q hq => by rw [Array.getElem?_push, if_neg (Nat.ne_of_lt hq)]
  rcases hs with ⟨rfl, hs⟩ | ⟨rfl, hs⟩ | ⟨rfl, hs⟩
  · refine W.newa (atype := .int) hx hb (hts _ ac_i) rfl hd rfl hpos (by rw [hcl2]; show _ * 4 ≤ _; omega) (by omega) (by rw [hcl2]; omega) (fun cA kA comp f1 f2 f3 => ?_)
    have hcA : cA = pg_A g 0 := Option.some.inj (f1.symm.trans (hF.1.2 0 _ rfl).2)
    rw [hcl2, hcA]
    exact pm_born hC0 hR hL hn hlo hret (hz2 _) (hq2 _) (pm_newcell hR hs (by omega) (fun k => by rw [pm_z_v, hs]; rfl) rfl) rfl hP
  · refine W.newa (atype := .boolean) hx hb (hts _ ac_z) rfl hd rfl hpos (by rw [hcl2]; show _ * 1 ≤ _; omega) (by omega) (by rw [hcl2]; omega) (fun cA kA comp f1 f2 f3 => ?_)
    have hcA : cA = pg_A g 1 := Option.some.inj (f1.symm.trans (hF.1.2 1 _ rfl).2)
    rw [hcl2, hcA]
    exact pm_born hC0 hR hL hn hlo hret (hz2 _) (hq2 _) (pm_newcell hR hs (by omega) (fun k => by rw [pm_z_v, hs]; rfl) rfl) rfl hP
  · refine W.newa (atype := .long) hx hb (hts _ ac_l) rfl hd rfl hpos (by rw [hcl2]; show _ * 8 ≤ _; omega) (by omega) (by rw [hcl2]; omega) (fun cA kA comp f1 f2 f3 => ?_)
    have hcA : cA = pg_A g 2 := Option.some.inj (f1.symm.trans (hF.1.2 2 _ rfl).2)
    rw [hcl2, hcA]
    exact pm_born hC0 hR hL hn hlo hret (hz2 _) (hq2 _) (pm_newcell hR hs (by omega) (fun k => by rw [pm_z_v, hs]; rfl) rfl) rfl hP
theorem sim_c36 (g : pm_G) (l : Launch) : pm_c36 (pm_Sim g l) := by
  intro k N Y pc L st h Q idx len x v hi hY hs hv hle hK hN hP p e R s m args below meth c H locs ls n0 Qw hC hR hL hn hlo hret
  have hC0 := hC
  obtain ⟨hd, hok, hlen⟩ := pm_dec hC.2.2.2.2.2.2.2.2.2.1 hi
  obtain ⟨hx, hb, hml, hr, hlk, hown, hin, hts, hF, -, hfr, hlc, hcl, hsl⟩ := hC
  have hlen := len_e hlen
  subst hlen
  obtain ⟨hoc, rfl⟩ := hY
  rw [hoc] at hown
  have hszN : pm_sz h.1 + (pm_sh h.1).2 ≤ pm_sz N := pm_sz_le (a := h.1 + 1) hN
  have hszn := pm_sz_le hn
  have hcl2 : v.toNatClampNeg = (pm_sh h.1).2 := by rw [hv]; exact nI_clamp (by omega)
  have hpos : ¬ v < 0 := by rw [hv]; exact nI_pos (by omega)
  have hz2 : ∀ c0 : Cell, (H.push c0).size = H.size + 1 := fun c0 => by simp
  have hq2 : ∀ (c0 : Cell) (q : Nat), q < H.size → (H.push c0)[q]? = H[q]? := fun c0 q hq => by rw [Array.getElem?_push, if_neg (Nat.ne_of_lt hq)]
  obtain ⟨hlink, -⟩ := pm_clin (oc := 9) (idx := 36) (ci := 8) (by decide)
  obtain ⟨-, -, -, -, -, -, -, -, -, -, -, hAO, -⟩ := hF
  refine W.anew (C := "PaperHouse$TypeLine") hx hb hown (hts _ hlink) hAO.use rfl hd rfl hpos (by rw [hcl2]; omega) (by omega) (by rw [hcl2]; omega) (fun cA kA comp f1 f2 f3 f4 => ?_)
  obtain ⟨kA', comp', r1, r2, r3, r4⟩ := (hC0.2.2.2.2.2.2.2.2.1.1.2 3 _ rfl).2
  have hcA : cA = pg_A g 3 := Option.some.inj (f1.symm.trans r4)
  rw [hcl2, hcA]
  exact pm_born hC0 hR hL hn hlo hret (hz2 _) (hq2 _) (pm_newcell hR hs (by omega) (fun k => by rw [pm_z_v, hs]; rfl) rfl) rfl hP
