theorem pm_blind {g : pm_G} {h : pm_H} {as : Array Value} : FrameBlind (fun a U => a = as ∧ pm_Fx g U ∧ pm_Rep g h U.heap) := fun a U f mk q => ⟨q.1, q.2.1.same rfl, q.2.2⟩
theorem pm_stk_rv (g : pm_G) (As rest : List Value) (b : Nat) : (As.reverse ++ .ref b :: rest).map (pm_rv g) = (As.map (pm_rv g)).reverse ++ .ref (pm_ad g b) :: rest.map (pm_rv g) := by
  rw [List.map_append, List.map_reverse]; rfl
theorem sim_c37 (g : pm_G) (l : Launch) : pm_c37 (pm_Sim g l) := by
  intro k N N' Y pc L rest h Q idx len z x Y' As b hi hz hkd hnp hcat hfit hN hN' hsb hoc hKb hb' hP p e R s m args below meth c H locs ls n0 Qw hC hR hL hn hlo hret
  have hC0 := hC
  obtain ⟨hd, hok, hlen⟩ := pm_dec hC.2.2.2.2.2.2.2.2.2.1 hi
  have hlen := len_e hlen
  subst hlen
  have hokY := pm_all_ok z Y' hz
  obtain ⟨w1, w2, w3, w4, w5, w6, w7, w8, w9⟩ := pm_okV_spec hokY.2.1
  have hM := pm_met (g := g) (l := l) (k := k) (N' := N') hokY (pm_all_okL z Y' hz) hfit (fun r h' q => q.1) hP
  obtain ⟨hx, hb, hml, hr, hlk, hown, hin, hts, hF, hoK, hfr, hlc, hcl, hsl⟩ := hC
  have hcell := hR.cell hKb hb'
  unfold pm_cell at hcell
  rw [if_pos (by omega), hsb] at hcell
  obtain ⟨cellB, q1, q2, q3, -⟩ := hcell
  obtain ⟨-, hfc, -⟩ := hF.1.1 _ _ (pm_cl_get hoc)
  have z1 := pm_sz_le hn
  have z2 := pm_sz_le hN
  have z3 := pm_sz_le hN'
  rw [pm_stk_rv]
  refine pm_back hC0 hL hn hlo hret hN (va_runV (Ts := pm_big) (own := pm_cn (pm_oc Y)) (C := (pm_nm Y').cls) (As := As.map (pm_rv g)) (rest := rest.map (pm_rv g)) (b := pm_ad g b) (nL := pm_ml Y) (n := pm_np Y') ⟨hx, hb, hml, hown, hts⟩ hM ⟨callB_of (pm_np Y') hts (pm_ws_good hokY) rfl rfl rfl (hts _ w1) (hts _ (pm_mlin hok hz)) ⟨w4.1, w4.2, w5⟩ ⟨hfr, by show 8 + (pm_ml Y' + 11) + 100 * k ≤ _; omega⟩, hts _ (w7 hkd).1, hts _ (w7 hkd).2⟩ ⟨pm_blind, ⟨cellB, q1, by rw [q3]; rfl, by rw [w2, q2]; exact hfc⟩, fun U hU hW => ⟨rfl, hF.warm hW, by rw [hU]; exact hR⟩⟩ rfl (by rw [List.length_map]; exact hnp) hL.2.1 rfl (lv_room (by rw [pm_cats_rv]; exact hcat)) hd ⟨by omega, by omega⟩)
theorem sim_c38 (g : pm_G) (l : Launch) : pm_c38 (pm_Sim g l) := by
  intro k N N' Y pc L rest h Q idx len z x Y' As hi hz hkd hnp hcat hfit hN hN' hP p e R s m args below meth c H locs ls n0 Qw hC hR hL hn hlo hret
  have hC0 := hC
  obtain ⟨hd, hok, hlen⟩ := pm_dec hC.2.2.2.2.2.2.2.2.2.1 hi
  have hlen := len_e hlen
  subst hlen
  have hokY := pm_all_ok z Y' hz
  obtain ⟨w1, w2, w3, w4, w5, w6, w7, w8, w9⟩ := pm_okV_spec hokY.2.1
  have hM := pm_met (g := g) (l := l) (k := k) (N' := N') hokY (pm_all_okL z Y' hz) hfit (fun r h' q => q.1) hP
  obtain ⟨hx, hb, hml, hr, hlk, hown, hin, hts, hF, hoK, hfr, hlc, hcl, hsl⟩ := hC
  have z1 := pm_sz_le hn
  have z2 := pm_sz_le hN
  have z3 := pm_sz_le hN'
  rw [List.map_append, List.map_reverse]
  refine pm_back hC0 hL hn hlo hret hN (va_runS (Ts := pm_big) (own := pm_cn (pm_oc Y)) (As := As.map (pm_rv g)) (rest := rest.map (pm_rv g)) (nL := pm_ml Y) (n := pm_np Y') ⟨hx, hb, hml, hown, hts⟩ hM ⟨callB_of (pm_np Y') hts (pm_ws_good hokY) rfl rfl rfl (hts _ w1) (hts _ (pm_mlin hok hz)) ⟨w4.1, w4.2, w5⟩ ⟨hfr, by show 8 + (pm_ml Y' + 11) + 100 * k ≤ _; omega⟩, hts _ (w8 hkd)⟩ ⟨pm_blind, fun U hU hW => ⟨rfl, hF.warm hW, by rw [hU]; exact hR⟩⟩ rfl (by rw [List.length_map]; exact hnp) hL.2.1 rfl (lv_room (by rw [pm_cats_rv]; exact hcat)) hd ⟨by omega, by omega⟩)
theorem sim_c39 (g : pm_G) (l : Launch) : pm_c39 (pm_Sim g l) := by
  intro k N N' Y pc L rest h Q idx len z x Y' As b hi hz hkd hnp hcat hfit hN hN' hP p e R s m args below meth c H locs ls n0 Qw hC hR hL hn hlo hret
  have hC0 := hC
  obtain ⟨hd, hok, hlen⟩ := pm_dec hC.2.2.2.2.2.2.2.2.2.1 hi
  have hlen := len_e hlen
  subst hlen
  have hokY := pm_all_ok z Y' hz
  obtain ⟨w1, w2, w3, w4, w5, w6, w7, w8, w9⟩ := pm_okV_spec hokY.2.1
  have hM := pm_met (g := g) (l := l) (k := k) (N' := N') hokY (pm_all_okL z Y' hz) hfit (fun r h' q => q.1) hP
  obtain ⟨hx, hb, hml, hr, hlk, hown, hin, hts, hF, hoK, hfr, hlc, hcl, hsl⟩ := hC
  have z1 := pm_sz_le hn
  have z2 := pm_sz_le hN
  have z3 := pm_sz_le hN'
  have hrt := (w9 hkd).2.2
  rw [pm_stk_rv]
  refine pm_back hC0 hL hn hlo hret hN (va_runI (Ts := pm_big) (own := pm_cn (pm_oc Y)) (As := As.map (pm_rv g)) (rest := rest.map (pm_rv g)) (b := pm_ad g b) (nL := pm_ml Y) (n := pm_np Y') ⟨hx, hb, hml, hown, hts⟩ hM ⟨callB_of (bytes := pm_by Y') (maxL := pm_ml Y') (ws' := pm_big) (pm_np Y') hts (pm_ws_good hokY) (by unfold pm_ws; rw [hrt]) rfl rfl (hts _ w1) (hts _ (pm_mlin hok hz)) ⟨w4.1, w4.2, w5⟩ ⟨hfr, by show 8 + (pm_ml Y' + 11) + 100 * k ≤ _; omega⟩, (w9 hkd).2.1, hts _ (w9 hkd).1⟩ ⟨pm_blind, fun U hU hW => ⟨rfl, hF.warm hW, by rw [hU]; exact hR⟩⟩ rfl (by rw [List.length_map]; exact hnp) hL.2.1 rfl (lv_room (by rw [pm_cats_rv]; exact hcat)) hd ⟨by omega, by omega⟩)
theorem pm_lxS {oc idx len z : Nat} {x : Nat × Nat} (h : pm_okX oc (.invokespecial idx, len, z, x) = true) (hz : 1000 ≤ z) : Cond.methodLink (pm_cn oc) idx (pm_prn z) ∈ pm_big := by
  obtain ⟨x1, x2⟩ := x
  exact pm_lxin h hz
theorem pm_lxT {oc idx len z : Nat} {x : Nat × Nat} (h : pm_okX oc (.invokestatic idx, len, z, x) = true) (hz : 1000 ≤ z) : Cond.methodLink (pm_cn oc) idx (pm_prn z) ∈ pm_big := by
  obtain ⟨x1, x2⟩ := x
  exact pm_lxin h hz
theorem pm_lxV {oc idx len z : Nat} {x : Nat × Nat} (h : pm_okX oc (.invokevirtual idx, len, z, x) = true) (hz : 1000 ≤ z) : Cond.methodLink (pm_cn oc) idx (pm_prn z) ∈ pm_big := by
  obtain ⟨x1, x2⟩ := x
  exact pm_lxin h hz
theorem pm_nfw : nativeFrameWords "java/lang/System" "arraycopy" 5 ≤ 80 := by decide
theorem oi_i : Cond.instanceMethod objectInit ∈ pm_big := pm_in (tb_get (p := 27) (by decide +kernel)) rfl
theorem oi_c : Cond.code objectInit ⟨#[0xb1]⟩ 1 none ∈ pm_big := pm_in (tb_get (p := 28) (by decide +kernel)) rfl
theorem sim_c40 (g : pm_G) (l : Launch) : pm_c40 (pm_Sim g l) := by
  intro k N Y pc L rest h Q idx len x b hi hcat hk1 hP p e R s m args below meth c H locs ls n0 Qw hC hR hL hn hlo hret
  have hW := hP p e R s m args below meth c H locs ls n0 Qw hC hR hL hn hlo hret
  obtain ⟨hd, hok, hlen, hoX⟩ := pm_dec4 hC.2.2.2.2.2.2.2.2.2.1 hi
  have hlen := len_e hlen
  subst hlen
  obtain ⟨hx, hb, hml, hr, hlk, hown, hin, hts, hF, hoK, hfr, hlc, hcl, hsl⟩ := hC
  have hlx := pm_lxS hoX (by omega)
  exact W.objInit hx hb hown (hts _ hlx) (hts _ oi_i) (hts _ oi_c) rfl (by rw [hml]; exact hL.2.1) rfl hd (by omega) (by show 2 * 0 + _ + 12 ≤ _; rw [pm_cats_rv]; omega) hW
theorem cp_n : Cond.native arraycopyName ∈ pm_big := pm_in (tb_get (p := 114) (by decide +kernel)) rfl
theorem cp_s : Cond.static arraycopyName ∈ pm_big := pm_in (tb_get (p := 113) (by decide +kernel)) rfl
theorem cp_i : Cond.initialized "java/lang/System" ∈ pm_big := pm_in (tb_get (p := 5) (by decide +kernel)) rfl
theorem pm_cpy_o {h : pm_H} {a sp b dp n i : Nat} (hi : i ≠ b) : pm_val (pm_cpy h a sp b dp n) i = pm_val h i := by
  have hz := nb_f hi
  funext j; simp only [pm_val, pm_rd, pm_cpy, hz, cond_false]
theorem sim_c41 (g : pm_G) (l : Launch) : pm_c41 (pm_Sim g l) := by
  intro k N Y pc L rest h Q idx len x a b sp dp n hi hsa hsb hKa ha hKb hb' hab hsp hdp hla hlb hcat hk2 hP p e R s m args below meth c H locs ls n0 Qw hC hR hL hn hlo hret
  obtain ⟨hd, hok, hlen, hoX⟩ := pm_dec4 hC.2.2.2.2.2.2.2.2.2.1 hi
  have hlen := len_e hlen
  subst hlen
  have hC0 := hC
  obtain ⟨hx, hb, hml, hr, hlk, hown, hin, hts, hF, hoK, hfr, hlc, hcl, hsl⟩ := hC
  have hlx := pm_lxT hoX (by omega)
  have h9 := pm_nfw
  have nn : ∀ z : Nat, z ≤ 60000 → (Int32.ofNat z).toNatClampNeg = z := fun z hz => nI_clamp (by omega)
  have ni : ∀ z : Nat, z ≤ 60000 → (Int32.ofNat z).toInt = (z : Int) := fun z hz => nI_toInt (by omega)
  have np : ∀ z : Nat, z ≤ 60000 → ¬ Int32.ofNat z < 0 := fun z hz => nI_pos (by omega)
  have va : (fun k => pm_rv g (pm_val h a k)) = fun k => Value.int (h.2.1 a k) := by funext k; rw [pm_val_i hsa (Or.inl rfl)]; rfl
  have vb : (fun k => pm_rv g (pm_val h b k)) = fun k => Value.int (h.2.1 b k) := by funext k; rw [pm_val_i hsb (Or.inl rfl)]; rfl
  have hca := hR.arr hKa ha hsa (by omega)
  have hcb := hR.arr hKb hb' hsb (by omega)
  rw [va] at hca
  rw [vb] at hcb
  intro T hT X
  obtain ⟨-, k0, hk0, cm0, hkk0⟩ := (hF.1.2 0 _ rfl).1 (pm_sh a).2 (fun j => .int (h.2.1 a j))
  obtain ⟨-, k1, hk1, cm1, hkk1⟩ := (hF.1.2 0 _ rfl).1 (pm_sh b).2 (fun j => .int (h.2.1 b j))
  obtain ⟨vm', X', step⟩ := X.arraycopy hx hown (hts _ hlx) (hts _ cp_n) (hts _ cp_s) (hts _ cp_i) (src := pm_ad g a) (dst := pm_ad g b) (cs := arrV (pg_A g 0) (pm_sh a).2 (fun k => Value.int (h.2.1 a k))) (cd := arrV (pg_A g 0) (pm_sh b).2 (fun k => Value.int (h.2.1 b k))) (srcPos := Int32.ofNat sp) (destPos := Int32.ofNat dp) (n := Int32.ofNat n) (by rw [hT]; exact hca) (by rw [hT]; exact hcb)
    (fun _ h => by cases h) (fun _ h => by cases h) (fun h => by cases h) (fun h => by cases h) hk0 hk1 hkk0 hkk1 (by rfl) (np sp (by omega)) (np dp (by omega)) (np n (by omega))
    (by rw [ni sp (by omega), ni n (by omega), arrV_size]; omega)
    (by rw [ni dp (by omega), ni n (by omega), arrV_size]; omega)
    (fun vm₁ _ i hi => by
      have e : (arrV (pg_A g 0) (pm_sh a).2 (fun k => Value.int (h.2.1 a k))).slots.getD ((Int32.ofNat sp).toNatClampNeg + i) .null = .int (h.2.1 a ((Int32.ofNat sp).toNatClampNeg + i)) := by
        rw [Array.getD_eq_getD_getElem?, arrV_read _ _ (by rw [nn n (by omega)] at hi; rw [nn sp (by omega)]; omega)]
        rfl
      refine ⟨?_, ?_⟩
      · rw [e]; rfl
      · rw [e]; exact trivial)
    (g := F0 m pc ls ((.int (Int32.ofNat n) :: .int (Int32.ofNat dp) :: .ref b :: .int (Int32.ofNat sp) :: .ref a :: rest).map (pm_rv g))) rfl (by rw [hml]; exact hL.2.1) (rest := rest.map (pm_rv g)) rfl (by rw [hb]; exact hd) (by omega) (by show 2 * 0 + _ + (nativeFrameWords "java/lang/System" "arraycopy" 5 + 11) ≤ _; rw [pm_cats_rv]; omega)
  have e1 : copied (arrV (pg_A g 0) (pm_sh a).2 (fun k => Value.int (h.2.1 a k))) (arrV (pg_A g 0) (pm_sh b).2 (fun k => Value.int (h.2.1 b k))) (Int32.ofNat sp) (Int32.ofNat dp) (Int32.ofNat n) = arrV (pg_A g 0) (pm_sh b).2 (fun j => Value.int (va_cpy (h.2.1 a) (h.2.1 b) sp dp n j)) := by
    have := va_copied (fun z => Value.int z) (pg_A g 0) (pg_A g 0) (n0 := (pm_sh a).2) (n1 := (pm_sh b).2) (sp := sp) (dp := dp) (n := n) (h.2.1 a) (h.2.1 b) hsp
    unfold copied
    rw [nn sp (by omega), nn dp (by omega), nn n (by omega)]
    exact this
  rw [e1] at X' step
  have hlt : pm_ad g b < H.size := (Array.getElem?_eq_some_iff.mp hcb).1
  have oq : ∀ q : Nat, q ≠ pm_ad g b → (H.setIfInBounds (pm_ad g b) (arrV (pg_A g 0) (pm_sh b).2 (fun j => Value.int (va_cpy (h.2.1 a) (h.2.1 b) sp dp n j))))[q]? = H[q]? := fun q hq => by simp [Array.getElem?_setIfInBounds, Ne.symm hq]
  have hR' : pm_Rep g (pm_cpy h a sp b dp n) (H.setIfInBounds (pm_ad g b) (arrV (pg_A g 0) (pm_sh b).2 (fun j => Value.int (va_cpy (h.2.1 a) (h.2.1 b) sp dp n j)))) := by
    refine hR.put hKb rfl ?_ rfl (fun i hi => pm_cpy_o hi) (by simp) oq ?_
    · show cond (Nat.beq 0 b) _ _ = _
      rw [nb_f (pm_0ne hKb)]; rfl
    · unfold pm_cell
      rw [if_neg (by omega), hsb]
      have vc : (fun k => pm_rv g (pm_val (pm_cpy h a sp b dp n) b k)) = fun j => Value.int (va_cpy (h.2.1 a) (h.2.1 b) sp dp n j) := by
        funext k
        rw [pm_val_i hsb (Or.inl rfl)]
        show Value.int (cond (Nat.beq b b) (va_cpy (h.2.1 a) (h.2.1 b) sp dp n) (h.2.1 b) k) = _
        rw [nb_t]; rfl
      rw [vc]
      simp [Array.getElem?_setIfInBounds, hlt]
  have hw := fun (locs' : List Loc) (hl' : ∀ q ∈ locs', pg_b g ≤ q.base) => hP p e R s m args below meth c _ locs' ls n0 Qw hC0 hR' hL hn hl' hret
  obtain ⟨t, a1, b1⟩ := hw _ (fun q hq => by
    rcases List.mem_append.mp hq with z | z
    · exact hlo q z
    · obtain ⟨w, -, hw⟩ := List.mem_map.mp z
      rw [← hw]
      show pg_b g ≤ pm_ad g b
      rw [pm_ad_hi hKb]; omega) _ (by rw [← hT]; rfl) X'
  exact ⟨t, step t a1, b1⟩
