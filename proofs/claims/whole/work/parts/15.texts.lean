def y_le : MethodName := ⟨"java/lang/String", "length", "()I"⟩
abbrev b_le : ByteArray := prog_17_method_54_code
set_option maxRecDepth 8000 in
theorem wc_le : Cond.code y_le b_le 1 (some .int) ∈ pm_big := pm_in (List.mem_append_right _ (tj3 (List.mem_of_getElem? (i := 60) rfl))) rfl
abbrev ws_le : List Cond := Cond.code y_le b_le 1 (some .int) :: pm_big
theorem wg_le : GoodIn pm_big ws_le := fun w hw => (List.mem_cons.mp hw).elim (fun e => by rw [e]; exact pm_good_in _ wc_le) (fun h => pm_good_in w h)
theorem wi_le : Cond.initialized y_le.cls ∈ pm_big := pm_in (tb_get (p := 15) (by decide +kernel)) rfl
theorem wk_le : Cond.instanceMethod y_le ∈ pm_big := pm_in (tb_get (p := 538) (by decide +kernel)) rfl
theorem we_le : Cond.selects "java/lang/String" y_le y_le ∈ pm_big := pm_in (tb_get (p := 539) (by decide +kernel)) rfl
theorem d_le_0 : decode b_le 0 = .ok (.aload_n 0, 1) := by decide +kernel
theorem d_le_1 : decode b_le 1 = .ok (.getfield 9, 3) := by decide +kernel
theorem d_le_4 : decode b_le 4 = .ok (.arraylength, 1) := by decide +kernel
theorem d_le_5 : decode b_le 5 = .ok (.aload_n 0, 1) := by decide +kernel
theorem d_le_6 : decode b_le 6 = .ok (.invokevirtual 335, 3) := by decide +kernel
theorem d_le_9 : decode b_le 9 = .ok (.ishr, 1) := by decide +kernel
theorem d_le_10 : decode b_le 10 = .ok (.ireturn, 1) := by decide +kernel
def y_co : MethodName := ⟨"java/lang/String", "coder", "()B"⟩
abbrev b_co : ByteArray := prog_17_method_152_code
set_option maxRecDepth 8000 in
theorem wc_co : Cond.code y_co b_co 1 (some .byte) ∈ pm_big := pm_in (List.mem_append_right _ (tj3 (List.mem_of_getElem? (i := 64) rfl))) rfl
abbrev ws_co : List Cond := Cond.code y_co b_co 1 (some .byte) :: pm_big
theorem wg_co : GoodIn pm_big ws_co := fun w hw => (List.mem_cons.mp hw).elim (fun e => by rw [e]; exact pm_good_in _ wc_co) (fun h => pm_good_in w h)
theorem wi_co : Cond.initialized y_co.cls ∈ pm_big := pm_in (tb_get (p := 15) (by decide +kernel)) rfl
theorem wk_co : Cond.instanceMethod y_co ∈ pm_big := pm_in (tb_get (p := 542) (by decide +kernel)) rfl
theorem we_co : Cond.selects "java/lang/String" y_co y_co ∈ pm_big := pm_in (tb_get (p := 543) (by decide +kernel)) rfl
theorem d_co_0 : decode b_co 0 = .ok (.getstatic 38, 3) := by decide +kernel
theorem d_co_3 : decode b_co 3 = .ok (.ifCond .eq 10, 3) := by decide +kernel
theorem d_co_6 : decode b_co 6 = .ok (.aload_n 0, 1) := by decide +kernel
theorem d_co_7 : decode b_co 7 = .ok (.getfield 15, 3) := by decide +kernel
theorem d_co_10 : decode b_co 10 = .ok (.goto 4, 3) := by decide +kernel
theorem d_co_13 : decode b_co 13 = .ok (.iconst 1, 1) := by decide +kernel
theorem d_co_14 : decode b_co 14 = .ok (.ireturn, 1) := by decide +kernel
def y_ca : MethodName := ⟨"java/lang/String", "charAt", "(I)C"⟩
abbrev b_ca : ByteArray := prog_17_method_56_code
set_option maxRecDepth 8000 in
theorem wc_ca : Cond.code y_ca b_ca 2 (some .char) ∈ pm_big := pm_in (List.mem_append_right _ (tj3 (List.mem_of_getElem? (i := 74) rfl))) rfl
abbrev ws_ca : List Cond := Cond.code y_ca b_ca 2 (some .char) :: pm_big
theorem wg_ca : GoodIn pm_big ws_ca := fun w hw => (List.mem_cons.mp hw).elim (fun e => by rw [e]; exact pm_good_in _ wc_ca) (fun h => pm_good_in w h)
theorem wi_ca : Cond.initialized y_ca.cls ∈ pm_big := pm_in (tb_get (p := 15) (by decide +kernel)) rfl
theorem wk_ca : Cond.instanceMethod y_ca ∈ pm_big := pm_in (tb_get (p := 552) (by decide +kernel)) rfl
theorem we_ca : Cond.selects "java/lang/String" y_ca y_ca ∈ pm_big := pm_in (tb_get (p := 553) (by decide +kernel)) rfl
theorem d_ca_0 : decode b_ca 0 = .ok (.aload_n 0, 1) := by decide +kernel
theorem d_ca_1 : decode b_ca 1 = .ok (.invokevirtual 492, 3) := by decide +kernel
theorem d_ca_4 : decode b_ca 4 = .ok (.ifCond .eq 12, 3) := by decide +kernel
theorem d_ca_7 : decode b_ca 7 = .ok (.aload_n 0, 1) := by decide +kernel
theorem d_ca_8 : decode b_ca 8 = .ok (.getfield 9, 3) := by decide +kernel
theorem d_ca_11 : decode b_ca 11 = .ok (.iload_n 1, 1) := by decide +kernel
theorem d_ca_12 : decode b_ca 12 = .ok (.invokestatic 495, 3) := by decide +kernel
theorem d_ca_15 : decode b_ca 15 = .ok (.ireturn, 1) := by decide +kernel
theorem d_ca_16 : decode b_ca 16 = .ok (.aload_n 0, 1) := by decide +kernel
theorem d_ca_17 : decode b_ca 17 = .ok (.getfield 9, 3) := by decide +kernel
theorem d_ca_20 : decode b_ca 20 = .ok (.iload_n 1, 1) := by decide +kernel
theorem d_ca_21 : decode b_ca 21 = .ok (.invokestatic 498, 3) := by decide +kernel
theorem d_ca_24 : decode b_ca 24 = .ok (.ireturn, 1) := by decide +kernel
def y_il : MethodName := ⟨"java/lang/String", "isLatin1", "()Z"⟩
abbrev b_il : ByteArray := prog_17_method_154_code
set_option maxRecDepth 8000 in
theorem wc_il : Cond.code y_il b_il 1 (some .boolean) ∈ pm_big := pm_in (List.mem_append_right _ (tj3 (List.mem_of_getElem? (i := 78) rfl))) rfl
abbrev ws_il : List Cond := Cond.code y_il b_il 1 (some .boolean) :: pm_big
theorem wg_il : GoodIn pm_big ws_il := fun w hw => (List.mem_cons.mp hw).elim (fun e => by rw [e]; exact pm_good_in _ wc_il) (fun h => pm_good_in w h)
theorem wi_il : Cond.initialized y_il.cls ∈ pm_big := pm_in (tb_get (p := 15) (by decide +kernel)) rfl
theorem wk_il : Cond.instanceMethod y_il ∈ pm_big := pm_in (tb_get (p := 556) (by decide +kernel)) rfl
theorem we_il : Cond.selects "java/lang/String" y_il y_il ∈ pm_big := pm_in (tb_get (p := 557) (by decide +kernel)) rfl
theorem d_il_0 : decode b_il 0 = .ok (.getstatic 38, 3) := by decide +kernel
theorem d_il_3 : decode b_il 3 = .ok (.ifCond .eq 14, 3) := by decide +kernel
theorem d_il_6 : decode b_il 6 = .ok (.aload_n 0, 1) := by decide +kernel
theorem d_il_7 : decode b_il 7 = .ok (.getfield 15, 3) := by decide +kernel
theorem d_il_10 : decode b_il 10 = .ok (.ifCond .ne 7, 3) := by decide +kernel
theorem d_il_13 : decode b_il 13 = .ok (.iconst 1, 1) := by decide +kernel
theorem d_il_14 : decode b_il 14 = .ok (.goto 4, 3) := by decide +kernel
theorem d_il_17 : decode b_il 17 = .ok (.iconst 0, 1) := by decide +kernel
theorem d_il_18 : decode b_il 18 = .ok (.ireturn, 1) := by decide +kernel
def y_lc : MethodName := ⟨"java/lang/StringLatin1", "charAt", "([BI)C"⟩
abbrev b_lc : ByteArray := prog_18_method_2_code
set_option maxRecDepth 8000 in
theorem wc_lc : Cond.code y_lc b_lc 2 (some .char) ∈ pm_big := pm_in (List.mem_append_right _ (tj3 (List.mem_of_getElem? (i := 81) rfl))) rfl
abbrev ws_lc : List Cond := Cond.code y_lc b_lc 2 (some .char) :: pm_big
theorem wg_lc : GoodIn pm_big ws_lc := fun w hw => (List.mem_cons.mp hw).elim (fun e => by rw [e]; exact pm_good_in _ wc_lc) (fun h => pm_good_in w h)
theorem wi_lc : Cond.initialized y_lc.cls ∈ pm_big := pm_in (tb_get (p := 16) (by decide +kernel)) rfl
theorem wk_lc : Cond.static y_lc ∈ pm_big := pm_in (tb_get (p := 560) (by decide +kernel)) rfl
theorem d_lc_0 : decode b_lc 0 = .ok (.iload_n 1, 1) := by decide +kernel
theorem d_lc_1 : decode b_lc 1 = .ok (.aload_n 0, 1) := by decide +kernel
theorem d_lc_2 : decode b_lc 2 = .ok (.arraylength, 1) := by decide +kernel
theorem d_lc_3 : decode b_lc 3 = .ok (.invokestatic 9, 3) := by decide +kernel
theorem d_lc_6 : decode b_lc 6 = .ok (.aload_n 0, 1) := by decide +kernel
theorem d_lc_7 : decode b_lc 7 = .ok (.iload_n 1, 1) := by decide +kernel
theorem d_lc_8 : decode b_lc 8 = .ok (.baload, 1) := by decide +kernel
theorem d_lc_9 : decode b_lc 9 = .ok (.sipush 255, 3) := by decide +kernel
theorem d_lc_12 : decode b_lc 12 = .ok (.iand, 1) := by decide +kernel
theorem d_lc_13 : decode b_lc 13 = .ok (.i2c, 1) := by decide +kernel
theorem d_lc_14 : decode b_lc 14 = .ok (.ireturn, 1) := by decide +kernel
def y_ci : MethodName := ⟨"java/lang/String", "checkIndex", "(II)V"⟩
abbrev b_ci : ByteArray := prog_17_method_155_code
set_option maxRecDepth 8000 in
theorem wc_ci : Cond.code y_ci b_ci 2 none ∈ pm_big := pm_in (List.mem_append_right _ (tj3 (List.mem_of_getElem? (i := 84) rfl))) rfl
abbrev ws_ci : List Cond := Cond.code y_ci b_ci 2 none :: pm_big
theorem wg_ci : GoodIn pm_big ws_ci := fun w hw => (List.mem_cons.mp hw).elim (fun e => by rw [e]; exact pm_good_in _ wc_ci) (fun h => pm_good_in w h)
theorem wi_ci : Cond.initialized y_ci.cls ∈ pm_big := pm_in (tb_get (p := 15) (by decide +kernel)) rfl
theorem wk_ci : Cond.static y_ci ∈ pm_big := pm_in (tb_get (p := 563) (by decide +kernel)) rfl
theorem d_ci_0 : decode b_ci 0 = .ok (.iload_n 0, 1) := by decide +kernel
theorem d_ci_1 : decode b_ci 1 = .ok (.iload_n 1, 1) := by decide +kernel
theorem d_ci_2 : decode b_ci 2 = .ok (.getstatic 1053, 3) := by decide +kernel
theorem d_ci_5 : decode b_ci 5 = .ok (.invokestatic 1059, 3) := by decide +kernel
theorem d_ci_8 : decode b_ci 8 = .ok (.pop, 1) := by decide +kernel
theorem d_ci_9 : decode b_ci 9 = .ok (.return_, 1) := by decide +kernel
def y_pc : MethodName := ⟨"jdk/internal/util/Preconditions", "checkIndex", "(IILjava/util/function/BiFunction;)I"⟩
abbrev b_pc : ByteArray := prog_21_method_11_code
set_option maxRecDepth 8000 in
theorem wc_pc : Cond.code y_pc b_pc 3 (some .int) ∈ pm_big := pm_in (List.mem_append_right _ (tj3 (List.mem_of_getElem? (i := 89) rfl))) rfl
abbrev ws_pc : List Cond := Cond.code y_pc b_pc 3 (some .int) :: pm_big
theorem wg_pc : GoodIn pm_big ws_pc := fun w hw => (List.mem_cons.mp hw).elim (fun e => by rw [e]; exact pm_good_in _ wc_pc) (fun h => pm_good_in w h)
theorem wi_pc : Cond.initialized y_pc.cls ∈ pm_big := pm_in (tb_get (p := 17) (by decide +kernel)) rfl
theorem wk_pc : Cond.static y_pc ∈ pm_big := pm_in (tb_get (p := 568) (by decide +kernel)) rfl
theorem d_pc_0 : decode b_pc 0 = .ok (.iload_n 0, 1) := by decide +kernel
theorem d_pc_1 : decode b_pc 1 = .ok (.ifCond .lt 8, 3) := by decide +kernel
theorem d_pc_4 : decode b_pc 4 = .ok (.iload_n 0, 1) := by decide +kernel
theorem d_pc_5 : decode b_pc 5 = .ok (.iload_n 1, 1) := by decide +kernel
theorem d_pc_6 : decode b_pc 6 = .ok (.if_icmp .lt 10, 3) := by decide +kernel
theorem d_pc_9 : decode b_pc 9 = .ok (.aload_n 2, 1) := by decide +kernel
theorem d_pc_10 : decode b_pc 10 = .ok (.iload_n 0, 1) := by decide +kernel
theorem d_pc_11 : decode b_pc 11 = .ok (.iload_n 1, 1) := by decide +kernel
theorem d_pc_12 : decode b_pc 12 = .ok (.invokestatic 95, 3) := by decide +kernel
theorem d_pc_15 : decode b_pc 15 = .ok (.athrow, 1) := by decide +kernel
theorem d_pc_16 : decode b_pc 16 = .ok (.iload_n 0, 1) := by decide +kernel
theorem d_pc_17 : decode b_pc 17 = .ok (.ireturn, 1) := by decide +kernel
theorem wl_co : Cond.methodLink "java/lang/String" 335 y_co ∈ pm_big := pm_in (tb_get (p := 541) (by decide +kernel)) rfl
theorem wl_il : Cond.methodLink "java/lang/String" 492 y_il ∈ pm_big := pm_in (tb_get (p := 555) (by decide +kernel)) rfl
theorem wl_lc : Cond.methodLink "java/lang/String" 495 y_lc ∈ pm_big := pm_in (tb_get (p := 559) (by decide +kernel)) rfl
theorem wl_ci : Cond.methodLink "java/lang/StringLatin1" 9 y_ci ∈ pm_big := pm_in (tb_get (p := 562) (by decide +kernel)) rfl
theorem wl_pc : Cond.methodLink "java/lang/String" 1059 y_pc ∈ pm_big := pm_in (tb_get (p := 567) (by decide +kernel)) rfl
theorem wf_cs : Cond.fieldLink "java/lang/String" 38 "java/lang/String" "COMPACT_STRINGS" "Z" ∈ pm_big := pm_in (tb_get (p := 545) (by decide +kernel)) rfl
theorem wf_sf : Cond.fieldLink "java/lang/String" 1053 "jdk/internal/util/Preconditions" "SIOOBE_FORMATTER" "Ljava/util/function/BiFunction;" ∈ pm_big := pm_in (tb_get (p := 565) (by decide +kernel)) rfl
theorem wf_va : Cond.fieldLink "java/lang/String" 9 "java/lang/String" "value" "[B" ∈ pm_big := pm_in (tb_get (p := 2013) (by decide +kernel)) rfl
theorem wf_cd : Cond.fieldLink "java/lang/String" 15 "java/lang/String" "coder" "B" ∈ pm_big := pm_in (tb_get (p := 2014) (by decide +kernel)) rfl
/-- what the JDK's text methods stand on; they change nothing -/
def sm_P (g : pm_G) (as : List Value) : Array Value → State → Prop := fun a U => a = as.toArray ∧ pm_Fx g U ∧ ∀ q, q < pg_b g → U.heap[q]? = (pg_H g)[q]?
def sm_Q (r : Option Value) : Array Value → State → Outcome → State → Prop := fun _ st o t => o = .returned r ∧ t.heap = st.heap
theorem sm_blind {g : pm_G} {as : List Value} : FrameBlind (sm_P g as) := fun a U f mk q => ⟨q.1, q.2.1.same rfl, q.2.2⟩
section Sm
variable {p : Program} {l : Launch} {e : Env} {R : Room} {s : State} {m : MethodId} {args : Array Value} {below : List Frame} {meth : Method} {c : Code} {H : Heap} {locs : List Loc} {cells slots : Nat} {Q : State → Prop} {cc : ByteArray} {pc : Nat} {ls : Array Slot} {rest st0 : List Value} {g : pm_G}
theorem sm_back {r : Option Value} {a : Array Value} (hr : va_Run p l e R s m args below meth c H locs cells slots 0 0 (F0 m pc ls st0) rest (sm_Q r a) (fun _ => False)) (kk : W p l e R s m args below meth c H locs cells slots Q (F0 m (pc + 3) ls (r.toList ++ rest))) : W p l e R s m args below meth c H locs cells slots Q (F0 m pc ls st0) := by
  intro T hT X
  obtain ⟨v, st₀, t, T', L, h0, X', hL, e1, -, ⟨hv, hh⟩, st⟩ := hr T hT X
  cases hv
  obtain ⟨t2, a1, b1⟩ := kk T' (by rw [e1, hh, h0]) (Stand.forget X' (fun q h => (hL q h).elim))
  exact ⟨t2, st t2 a1, b1⟩
theorem sm_getf (hexec : p.tables.exec = Jvm.exec) (hb : c.code = cc) {o n d own : String} {index q : Nat} {v : Value} (hE : va_OF o n d v q (fun q => pg_b g ≤ q) s (pg_H g)) (hlo : ∀ q, q < pg_b g → H[q]? = (pg_H g)[q]?) (hown : s.vm.findClass own = some m.cls) (hlink : (Cond.fieldLink own index o n d).before args s = true) (hdg : decode cc pc = .ok (.getfield index, 3))
    (kk : W p l e R s m args below meth c H locs cells slots Q (F0 m (pc + 3) ls (v :: rest))) : W p l e R s m args below meth c H locs cells slots Q (F0 m pc ls (.ref q :: rest)) := by
  obtain ⟨cf, k, fi, f, cell, h1, h2, h3, h4, h5, h6⟩ := hE
  exact W.getf hexec hb hown hlink h1 h2 (by rw [hlo q (by omega)]; exact h3) h4 (v := v) h5 rfl rfl hdg kk
end Sm
abbrev sm_R (k : Nat) : Room := { frames := k, cells := 0, slots := 0, locals := 40 * k }
/-- Preconditions.checkIndex, within -/
theorem sm_pc (l : Launch) (g : pm_G) (i n : Int32) (v : Value) (hv : v = .null ∨ ∃ t, v = .ref t) (h0 : ¬ i < 0) (h1 : i < n) : Met l y_pc ws_pc (sm_R 0) (sm_P g [.int i, .int n, v]) (sm_Q (some (.int i))) 0 0 (fun _ => False) := by
  refine pm_ofW (by decide +kernel) rfl ?_
  intro p e s m args below meth c s₁ B hml hP
  obtain ⟨rfl, hF, hlo⟩ := hP
  have hx := B.exec
  have hb := B.bytes
  have hr := B.returns
  have hlocks := B.notSynchronized
  have hl : lv_has ((lg_sl [.int i, .int n, v] ++ List.replicate (3 - (lg_sl [.int i, .int n, v]).length) Slot.unset).toArray) 3 [(0, .int i), (1, .int n)] := by
    rcases hv with rfl | ⟨t, rfl⟩
    · exact lv_sub (lv_entry [.int i, .int n, .null] (n := 3) (Nat.le_of_ble_eq_true rfl)) [0, 1] rfl
    · exact lv_sub (lv_entry [.int i, .int n, .ref t] (n := 3) (Nat.le_of_ble_eq_true rfl)) [0, 1] rfl
  rw [lg_entry_eq]
  generalize (lg_sl [.int i, .int n, v] ++ List.replicate (3 - (lg_sl [.int i, .int n, v]).length) Slot.unset).toArray = ls at hl ⊢
  refine lv_iload_n hx hb d_pc_0 rfl (lv_at hl 0 rfl) ?_
  refine lv_if_lt hx hb d_pc_1 (tgt := 9) rfl (fun z => absurd z h0) (fun _ => ?_)
  refine lv_iload_n hx hb d_pc_4 rfl (lv_at hl 0 rfl) ?_
  refine lv_iload_n hx hb d_pc_5 rfl (lv_at hl 1 rfl) ?_
  refine lv_icmp_lt hx hb d_pc_6 (tgt := 16) rfl (fun _ => ?_) (fun z => absurd h1 z)
  refine lv_iload_n hx hb d_pc_16 rfl (lv_at hl 0 rfl) ?_
  exact W.iret hx hb hr (fun t ht hW => ⟨rfl, ht⟩) (fun q h => by cases h) d_pc_17
/-- String.checkIndex, within -/
theorem sm_ci (l : Launch) (g : pm_G) (i n : Int32) (h0 : ¬ i < 0) (h1 : i < n) : Met l y_ci ws_ci (sm_R 1) (sm_P g [.int i, .int n]) (sm_Q none) 0 0 (fun _ => False) := by
  refine pm_ofW (by decide +kernel) rfl ?_
  intro p e s m args below meth c s₁ B hml hP
  obtain ⟨rfl, hF, hlo⟩ := hP
  have hx := B.exec
  have hb := B.bytes
  have hr := B.returns
  have hlocks := B.notSynchronized
  have hts : ∀ w ∈ pm_big, w.before _ s = true := fun w hw => atoms_spec (ws := ws_ci) B.pre w (List.mem_cons_of_mem _ hw)
  have hown : s.vm.findClass "java/lang/String" = some m.cls := findClass_of_methodNamed B.named
  have hl := lv_entry ([.int i, .int n]) (n := 2) (Nat.le_of_ble_eq_true rfl)
  rw [lg_entry_eq]
  generalize (lg_sl [.int i, .int n] ++ List.replicate (2 - (lg_sl [.int i, .int n]).length) Slot.unset).toArray = ls at hl ⊢
  have hl : lv_has ls 2 [(0, .int i), (1, .int n)] := hl
  refine lv_iload_n hx hb d_ci_0 rfl (lv_at hl 0 rfl) ?_
  refine lv_iload_n hx hb d_ci_1 rfl (lv_at hl 1 rfl) ?_
  have hF0 := hF
  obtain ⟨-, -, -, -, -, -, -, -, -, -, -, -, hZ⟩ := hF
  have go : ∀ v : Value, (v = .null ∨ ∃ t, v = .ref t) → W p l e (sm_R 1) s m ([.int i, .int n] : List Value).toArray below meth c s.heap [] 0 0 (MQ below (sm_Q none) ([.int i, .int n] : List Value).toArray s 0 0 (fun _ => False)) (F0 m 5 ls [v, .int n, .int i]) := by
    intro v hv
    refine sm_back (r := some (.int i)) (rest := []) (va_runS (Ts := pm_big) (own := "java/lang/String") (As := [.int i, .int n, v]) (rest := []) (nL := 2) (n := 3) ⟨hx, hb, hml, hown, hts⟩ (sm_pc l g i n v hv h0 h1) ⟨callB_of 3 hts wg_pc rfl rfl rfl (hts _ wi_pc) (hts _ wl_pc) (by decide +kernel) ⟨Nat.le_of_ble_eq_true rfl, Nat.le_of_ble_eq_true rfl⟩, hts _ wk_pc⟩ ⟨sm_blind, fun U hU hW => ⟨rfl, hF0.warm hW, by rw [hU]; exact hlo⟩⟩ rfl rfl hl.1 rfl (lv_room (Nat.le_of_ble_eq_true rfl)) d_ci_5 ⟨Nat.le_refl _, Nat.le_refl _⟩) ?_
    refine lv_pop (va := .int i) hx hb d_ci_8 rfl ?_
    exact W.vret hx hb hr (fun t ht hW => ⟨rfl, ht⟩) (fun q h => by cases h) d_ci_9
  rcases hZ with hZ | ⟨t, hZ⟩
  · exact pm_gets hx hb hZ hlo hown (hts _ wf_sf) rfl d_ci_2 (go _ (Or.inl rfl))
  · exact pm_gets hx hb hZ hlo hown (hts _ wf_sf) rfl d_ci_2 (go _ (Or.inr ⟨t, rfl⟩))
/-- a text's byte as a char -/
theorem sm_chr : ∀ i, i < 8 → ∀ j, j < (pm_tbyt.getD i []).length → ((((pm_tbyt.getD i []).getD j 0 &&& 255).toUInt32 % 65536).toInt32 = (pm_tbyt.getD i []).getD j 0 ∧ narrow .char (.int ((pm_tbyt.getD i []).getD j 0)) = .int ((pm_tbyt.getD i []).getD j 0)) := by decide +kernel
theorem sm_len : ∀ i, i < 8 → (pm_tbyt.getD i []).length = pm_tlen.getD i 0 ∧ pm_tlen.getD i 0 < 6 ∧ pm_tbyt.getD i [] = pm_txt (i + 3) := by decide +kernel
/-- the bytes of a constant are there, too -/
def sm_P2 (g : pm_G) (i b : Nat) (as : List Value) : Array Value → State → Prop := fun a U => a = as.toArray ∧ pm_Fx g U ∧ (∀ q, q < pg_b g → U.heap[q]? = (pg_H g)[q]?) ∧ va_T .byte b (pm_tlen.getD i 0) (fun j => .int ((pm_tbyt.getD i []).getD j 0)) (fun q => pg_b g ≤ q) U (pg_H g)
theorem sm_blind2 {g : pm_G} {i b : Nat} {as : List Value} : FrameBlind (sm_P2 g i b as) := fun a U f mk q => ⟨q.1, q.2.1.same rfl, q.2.2.1, q.2.2.2.moved (u := U) (U := U.calling f mk a) (Vm.Alike.refl U.vm)⟩
/-- StringLatin1.charAt on a constant's bytes -/
theorem sm_lc2 (l : Launch) (g : pm_G) (i : Nat) (hi : i < 8) (b : Nat) (j : Int32) (hj : vp_in j (pm_tlen.getD i 0)) : Met l y_lc ws_lc (sm_R 2) (sm_P2 g i b [.ref b, .int j]) (sm_Q (some (.int ((pm_tbyt.getD i []).getD j.toNatClampNeg 0)))) 0 0 (fun _ => False) := by
  refine pm_ofW (by decide +kernel) rfl ?_
  intro p e s m args below meth c s₁ B hml hP
  obtain ⟨rfl, hF, hlo, hT⟩ := hP
  have hx := B.exec
  have hb := B.bytes
  have hr := B.returns
  have hlocks := B.notSynchronized
  have hts : ∀ w ∈ pm_big, w.before _ s = true := fun w hw => atoms_spec (ws := ws_lc) B.pre w (List.mem_cons_of_mem _ hw)
  have hown : s.vm.findClass "java/lang/StringLatin1" = some m.cls := findClass_of_methodNamed B.named
  have hl := lv_entry ([.ref b, .int j]) (n := 2) (Nat.le_of_ble_eq_true rfl)
  rw [lg_entry_eq]
  generalize (lg_sl [.ref b, .int j] ++ List.replicate (2 - (lg_sl [.ref b, .int j]).length) Slot.unset).toArray = ls at hl ⊢
  have hl : lv_has ls 2 [(0, .ref b), (1, .int j)] := hl
  obtain ⟨cell, t1, t2, t3, t4, t5, t6, t7⟩ := hT
  have hcell : s.heap[b]? = some cell := by rw [hlo b (by omega)]; exact t1
  have hjl := pm_inl hj
  obtain ⟨hl1, hl2, hl3⟩ := sm_len i hi
  obtain ⟨hc1, hc2⟩ := sm_chr i hi j.toNatClampNeg (by omega)
  have hj0 : ¬ j < 0 := fun z => hj (Or.inl z)
  have hjn : j < Int32.ofNat (pm_tlen.getD i 0) := by
    obtain ⟨k, hk, rfl⟩ := vp_in_of hj (by omega)
    exact nI_lt hk (by omega)
  refine lv_iload_n hx hb d_lc_0 rfl (lv_at hl 1 rfl) ?_
  refine lv_aload_n hx hb d_lc_1 rfl (lv_at hl 0 rfl) ?_
  refine W.alen hx hb hcell t2 t5 rfl rfl d_lc_2 ?_
  refine sm_back (r := none) (rest := []) (va_runS (Ts := pm_big) (own := "java/lang/StringLatin1") (As := [.int j, .int (Int32.ofNat (pm_tlen.getD i 0))]) (rest := []) (nL := 2) (n := 2) ⟨hx, hb, hml, hown, hts⟩ (sm_ci l g j _ hj0 hjn) ⟨callB_of 2 hts wg_ci rfl rfl rfl (hts _ wi_ci) (hts _ wl_ci) (by decide +kernel) ⟨Nat.le_of_ble_eq_true rfl, Nat.le_of_ble_eq_true rfl⟩, hts _ wk_ci⟩ ⟨sm_blind, fun U hU hW => ⟨rfl, hF.warm hW, by rw [hU]; exact hlo⟩⟩ rfl rfl hl.1 rfl (lv_room (Nat.le_of_ble_eq_true rfl)) d_lc_3 ⟨Nat.le_refl _, Nat.le_refl _⟩) ?_
  refine lv_aload_n hx hb d_lc_6 rfl (lv_at hl 0 rfl) ?_
  refine lv_iload_n hx hb d_lc_7 rfl (lv_at hl 1 rfl) ?_
  refine W.bald hx hb hcell t2 t3 (fun z => z.elim hj0 (fun z => by omega)) (t6 _ hjl) rfl rfl d_lc_8 ?_
  refine lv_sipush hx hb d_lc_9 (v := 255) (by decide) ?_
  refine lv_iand hx hb d_lc_12 ?_
  refine lv_i2c hx hb d_lc_13 hc1 ?_
  exact W.zret hx hb hr hc2 (fun t ht hW => ⟨rfl, ht⟩) (fun q h => by cases h) d_lc_14
/-- String.isLatin1 on a constant -/
theorem sm_il (l : Launch) (g : pm_G) (b : Nat) (hO : ∀ U : State, pm_Fx g U → va_OF "java/lang/String" "coder" "B" (.int 0) b (fun q => pg_b g ≤ q) U (pg_H g)) : Met l y_il ws_il (sm_R 0) (sm_P g [.ref b]) (sm_Q (some (.int 1))) 0 0 (fun _ => False) := by
  refine pm_ofW (by decide +kernel) rfl ?_
  intro p e s m args below meth c s₁ B hml hP
  obtain ⟨rfl, hF, hlo⟩ := hP
  have hx := B.exec
  have hb := B.bytes
  have hr := B.returns
  have hlocks := B.notSynchronized
  have hts : ∀ w ∈ pm_big, w.before _ s = true := fun w hw => atoms_spec (ws := ws_il) B.pre w (List.mem_cons_of_mem _ hw)
  have hown : s.vm.findClass "java/lang/String" = some m.cls := findClass_of_methodNamed B.named
  have hl := lv_entry ([.ref b]) (n := 1) (Nat.le_of_ble_eq_true rfl)
  rw [lg_entry_eq]
  generalize (lg_sl [.ref b] ++ List.replicate (1 - (lg_sl [.ref b]).length) Slot.unset).toArray = ls at hl ⊢
  have hl : lv_has ls 1 [(0, .ref b)] := hl
  have hE := hO s hF
  obtain ⟨-, -, -, -, -, -, -, -, -, hZ, -⟩ := hF
  refine pm_gets hx hb hZ hlo hown (hts _ wf_cs) rfl d_il_0 ?_
  refine lv_if_eq hx hb d_il_3 (tgt := 17) rfl (fun z => absurd z (by decide)) (fun _ => ?_)
  refine lv_aload_n hx hb d_il_6 rfl (lv_at hl 0 rfl) ?_
  refine sm_getf hx hb hE hlo hown (hts _ wf_cd) d_il_7 ?_
  refine lv_if_ne hx hb d_il_10 (tgt := 17) rfl (fun z => absurd rfl z) (fun _ => ?_)
  refine lv_iconst hx hb d_il_13 (v := 1) (by decide) ?_
  refine lv_goto hx hb d_il_14 (tgt := 18) rfl ?_
  exact W.zret hx hb hr rfl (fun t ht hW => ⟨rfl, ht⟩) (fun q h => by cases h) d_il_18
theorem sm_co (l : Launch) (g : pm_G) (b : Nat) (hO : ∀ U : State, pm_Fx g U → va_OF "java/lang/String" "coder" "B" (.int 0) b (fun q => pg_b g ≤ q) U (pg_H g)) : Met l y_co ws_co (sm_R 0) (sm_P g [.ref b]) (sm_Q (some (.int 0))) 0 0 (fun _ => False) := by
  refine pm_ofW (by decide +kernel) rfl ?_
  intro p e s m args below meth c s₁ B hml hP
  obtain ⟨rfl, hF, hlo⟩ := hP
  have hx := B.exec
  have hb := B.bytes
  have hr := B.returns
  have hlocks := B.notSynchronized
  have hts : ∀ w ∈ pm_big, w.before _ s = true := fun w hw => atoms_spec (ws := ws_co) B.pre w (List.mem_cons_of_mem _ hw)
  have hown : s.vm.findClass "java/lang/String" = some m.cls := findClass_of_methodNamed B.named
  have hl := lv_entry ([.ref b]) (n := 1) (Nat.le_of_ble_eq_true rfl)
  rw [lg_entry_eq]
  generalize (lg_sl [.ref b] ++ List.replicate (1 - (lg_sl [.ref b]).length) Slot.unset).toArray = ls at hl ⊢
  have hl : lv_has ls 1 [(0, .ref b)] := hl
  have hE := hO s hF
  obtain ⟨-, -, -, -, -, -, -, -, -, hZ, -⟩ := hF
  refine pm_gets hx hb hZ hlo hown (hts _ wf_cs) rfl d_co_0 ?_
  refine lv_if_eq hx hb d_co_3 (tgt := 13) rfl (fun z => absurd z (by decide)) (fun _ => ?_)
  refine lv_aload_n hx hb d_co_6 rfl (lv_at hl 0 rfl) ?_
  refine sm_getf hx hb hE hlo hown (hts _ wf_cd) d_co_7 ?_
  refine lv_goto hx hb d_co_10 (tgt := 14) rfl ?_
  exact W.zret hx hb hr rfl (fun t ht hW => ⟨rfl, ht⟩) (fun q h => by cases h) d_co_14
theorem sm_recv {g : pm_G} {s : State} {i : Nat} (hF : pm_Fx g s) (hi : i < 8) {H : Heap} (hlo : ∀ q, q < pg_b g → H[q]? = (pg_H g)[q]?) : ∃ cellB : Cell, H[pg_c g (i + 3)]? = some cellB ∧ cellB.vm.isStatics = false ∧ s.vm.findClass "java/lang/String" = some cellB.cls := by
  obtain ⟨-, -, -, -, -, -, -, -, ⟨adV, hS, -⟩, -⟩ := hF
  obtain ⟨cell, h1, h2, h3, h4⟩ := (hS i hi).1
  have h5 : ¬ pg_b g ≤ pg_c g (i + 3) := h4
  exact ⟨cell, by rw [hlo _ (by omega)]; exact h1, h2, h3⟩
theorem sm_cod {g : pm_G} {i : Nat} (hi : i < 8) (U : State) (hF : pm_Fx g U) : va_OF "java/lang/String" "coder" "B" (.int 0) (pg_c g (i + 3)) (fun q => pg_b g ≤ q) U (pg_H g) := by
  obtain ⟨-, -, -, -, -, -, -, -, ⟨adV, hS, -⟩, -⟩ := hF
  exact (hS i hi).2.1
/-- String.length on a constant -/
theorem sm_le (l : Launch) (g : pm_G) (i : Nat) (hi : i < 8) : Met l y_le ws_le (sm_R 1) (sm_P g [.ref (pg_c g (i + 3))]) (sm_Q (some (.int (Int32.ofNat (pm_tlen.getD i 0))))) 0 0 (fun _ => False) := by
  refine pm_ofW (by decide +kernel) rfl ?_
  intro p e s m args below meth c s₁ B hml hP
  obtain ⟨rfl, hF, hlo⟩ := hP
  have hx := B.exec
  have hb := B.bytes
  have hr := B.returns
  have hlocks := B.notSynchronized
  have hts : ∀ w ∈ pm_big, w.before _ s = true := fun w hw => atoms_spec (ws := ws_le) B.pre w (List.mem_cons_of_mem _ hw)
  have hown : s.vm.findClass "java/lang/String" = some m.cls := findClass_of_methodNamed B.named
  have hl := lv_entry ([.ref (pg_c g (i + 3))]) (n := 1) (Nat.le_of_ble_eq_true rfl)
  rw [lg_entry_eq]
  generalize (lg_sl [.ref (pg_c g (i + 3))] ++ List.replicate (1 - (lg_sl [.ref (pg_c g (i + 3))]).length) Slot.unset).toArray = ls at hl ⊢
  have hl : lv_has ls 1 [(0, .ref (pg_c g (i + 3)))] := hl
  have hF0 := hF
  obtain ⟨-, -, -, -, -, -, -, -, ⟨adV, hS, -⟩, -⟩ := hF
  obtain ⟨s1, s2, s3, cell, t1, t2, t3, t4, t5, t6, t7⟩ := hS i hi
  have hcell : s.heap[adV i]? = some cell := by rw [hlo _ (by omega)]; exact t1
  refine lv_aload_n hx hb d_le_0 rfl (lv_at hl 0 rfl) ?_
  refine sm_getf hx hb s3 hlo hown (hts _ wf_va) d_le_1 ?_
  refine W.alen hx hb hcell t2 t5 rfl rfl d_le_4 ?_
  refine lv_aload_n hx hb d_le_5 rfl (lv_at hl 0 rfl) ?_
  refine sm_back (r := some (.int 0)) (rest := [.int (Int32.ofNat (pm_tlen.getD i 0))]) (va_runV (Ts := pm_big) (own := "java/lang/String") (C := "java/lang/String") (As := []) (rest := [.int (Int32.ofNat (pm_tlen.getD i 0))]) (b := pg_c g (i + 3)) (nL := 1) (n := 0) ⟨hx, hb, hml, hown, hts⟩ (sm_co l g _ (sm_cod hi)) ⟨callB_of 0 hts wg_co rfl rfl rfl (hts _ wi_co) (hts _ wl_co) (by decide +kernel) ⟨Nat.le_of_ble_eq_true rfl, Nat.le_of_ble_eq_true rfl⟩, hts _ wk_co, hts _ we_co⟩ ⟨sm_blind, sm_recv hF0 hi hlo, fun U hU hW => ⟨rfl, hF0.warm hW, by rw [hU]; exact hlo⟩⟩ rfl rfl hl.1 rfl (lv_room (Nat.le_of_ble_eq_true rfl)) d_le_6 ⟨Nat.le_refl _, Nat.le_refl _⟩) ?_
  refine lv_ishr hx hb d_le_9 ?_
  have e0 : Int32.ofNat (pm_tlen.getD i 0) >>> ((0 : Int32) &&& 31) = Int32.ofNat (pm_tlen.getD i 0) := sc_shr0 (by have := (sm_len i hi).2.1; omega)
  rw [e0]
  exact W.iret hx hb hr (fun t ht hW => ⟨rfl, ht⟩) (fun q h => by cases h) d_le_10
/-- String.charAt on a constant, within -/
theorem sm_ca (l : Launch) (g : pm_G) (i : Nat) (hi : i < 8) (j : Int32) (hj : vp_in j (pm_tlen.getD i 0)) : Met l y_ca ws_ca (sm_R 3) (sm_P g [.ref (pg_c g (i + 3)), .int j]) (sm_Q (some (.int ((pm_tbyt.getD i []).getD j.toNatClampNeg 0)))) 0 0 (fun _ => False) := by
  refine pm_ofW (by decide +kernel) rfl ?_
  intro p e s m args below meth c s₁ B hml hP
  obtain ⟨rfl, hF, hlo⟩ := hP
  have hx := B.exec
  have hb := B.bytes
  have hr := B.returns
  have hlocks := B.notSynchronized
  have hts : ∀ w ∈ pm_big, w.before _ s = true := fun w hw => atoms_spec (ws := ws_ca) B.pre w (List.mem_cons_of_mem _ hw)
  have hown : s.vm.findClass "java/lang/String" = some m.cls := findClass_of_methodNamed B.named
  have hl := lv_entry ([.ref (pg_c g (i + 3)), .int j]) (n := 2) (Nat.le_of_ble_eq_true rfl)
  rw [lg_entry_eq]
  generalize (lg_sl [.ref (pg_c g (i + 3)), .int j] ++ List.replicate (2 - (lg_sl [.ref (pg_c g (i + 3)), .int j]).length) Slot.unset).toArray = ls at hl ⊢
  have hl : lv_has ls 2 [(0, .ref (pg_c g (i + 3))), (1, .int j)] := hl
  have hF0 := hF
  obtain ⟨-, -, -, -, -, -, -, -, ⟨adV, hS, -⟩, -⟩ := hF
  obtain ⟨s1, s2, s3, s4⟩ := hS i hi
  obtain ⟨hl1, hl2, hl3⟩ := sm_len i hi
  obtain ⟨hc1, hc2⟩ := sm_chr i hi j.toNatClampNeg (by have := pm_inl hj; omega)
  refine lv_aload_n hx hb d_ca_0 rfl (lv_at hl 0 rfl) ?_
  refine sm_back (r := some (.int 1)) (rest := []) (va_runV (Ts := pm_big) (own := "java/lang/String") (C := "java/lang/String") (As := []) (rest := []) (b := pg_c g (i + 3)) (nL := 2) (n := 0) ⟨hx, hb, hml, hown, hts⟩ (sm_il l g _ (sm_cod hi)) ⟨callB_of 0 hts wg_il rfl rfl rfl (hts _ wi_il) (hts _ wl_il) (by decide +kernel) ⟨Nat.le_of_ble_eq_true rfl, Nat.le_of_ble_eq_true rfl⟩, hts _ wk_il, hts _ we_il⟩ ⟨sm_blind, sm_recv hF0 hi hlo, fun U hU hW => ⟨rfl, hF0.warm hW, by rw [hU]; exact hlo⟩⟩ rfl rfl hl.1 rfl (lv_room (Nat.le_of_ble_eq_true rfl)) d_ca_1 ⟨Nat.le_refl _, Nat.le_refl _⟩) ?_
  refine lv_if_eq hx hb d_ca_4 (tgt := 16) rfl (fun z => absurd z (by decide)) (fun _ => ?_)
  refine lv_aload_n hx hb d_ca_7 rfl (lv_at hl 0 rfl) ?_
  refine sm_getf hx hb s3 hlo hown (hts _ wf_va) d_ca_8 ?_
  refine lv_iload_n hx hb d_ca_11 rfl (lv_at hl 1 rfl) ?_
  refine sm_back (r := some (.int ((pm_tbyt.getD i []).getD j.toNatClampNeg 0))) (rest := []) (va_runS (Ts := pm_big) (own := "java/lang/String") (As := [.ref (adV i), .int j]) (rest := []) (nL := 2) (n := 2) ⟨hx, hb, hml, hown, hts⟩ (sm_lc2 l g i hi (adV i) j hj) ⟨callB_of 2 hts wg_lc rfl rfl rfl (hts _ wi_lc) (hts _ wl_lc) (by decide +kernel) ⟨Nat.le_of_ble_eq_true rfl, Nat.le_of_ble_eq_true rfl⟩, hts _ wk_lc⟩ ⟨sm_blind2, fun U hU hW => ⟨rfl, hF0.warm hW, by rw [hU]; exact hlo, s4.moved hW.alike⟩⟩ rfl rfl hl.1 rfl (lv_room (Nat.le_of_ble_eq_true rfl)) d_ca_12 ⟨Nat.le_refl _, Nat.le_refl _⟩) ?_
  exact W.zret hx hb hr hc2 (fun t ht hW => ⟨rfl, ht⟩) (fun q h => by cases h) d_ca_15
theorem sim_c32 (g : pm_G) (l : Launch) : pm_c32 (pm_Sim g l) := by
  intro k N Y pc L st h Q idx len x a hi h3 h11 hcat hk2 hnN hP p e R s m args below meth c H locs ls n0 Qw hC hR hL hn hlo hret
  have hW := hP p e R s m args below meth c H locs ls n0 Qw hC hR hL hn hlo hret
  obtain ⟨hd, hok, hlen, hoX⟩ := pm_dec4 hC.2.2.2.2.2.2.2.2.2.1 hi
  have hlen := len_e hlen
  subst hlen
  obtain ⟨hx, hb, hml, hr, hlk, hown, hin, hts, hF, hoK, hfr, hlc, hcl, hsl⟩ := hC
  have hlx := pm_lxV hoX (by omega)
  obtain ⟨i, rfl⟩ : ∃ i, a = i + 3 := ⟨a - 3, by omega⟩
  have hi8 : i < 8 := by omega
  obtain ⟨hl1, hl2, hl3⟩ := sm_len i hi8
  have had : pm_ad g (i + 3) = pg_c g (i + 3) := pm_ad_lo (by unfold pm_K; omega)
  rw [← hl3, hl1] at hW
  show W p l e R s m args below meth c H locs (h.1 - n0) (pm_sz h.1 - pm_sz n0) Qw (F0 m pc ls (.ref (pm_ad g (i + 3)) :: st.map (pm_rv g)))
  rw [had]
  exact sm_back (r := some (.int (Int32.ofNat (pm_tlen.getD i 0)))) (rest := st.map (pm_rv g)) (va_runV (Ts := pm_big) (own := pm_cn (pm_oc Y)) (C := "java/lang/String") (As := []) (rest := st.map (pm_rv g)) (b := pg_c g (i + 3)) (nL := pm_ml Y) (n := 0) ⟨hx, hb, hml, hown, hts⟩ (sm_le l g i hi8) ⟨callB_of 0 hts wg_le rfl rfl rfl (hts _ wi_le) (hts _ hlx) (by decide +kernel) ⟨by show 1 + 1 ≤ _; omega, by show 8 + (1 + 11) + 40 * 1 ≤ _; omega⟩, hts _ wk_le, hts _ we_le⟩ ⟨sm_blind, sm_recv hF hi8 hR.2.2.1, fun U hU hW => ⟨rfl, hF.warm hW, by rw [hU]; exact hR.2.2.1⟩⟩ rfl rfl hL.2.1 rfl (lv_room (by rw [pm_cats_rv]; exact hcat)) hd ⟨by omega, by have := pm_sz_le hnN; have := pm_sz_le hn; omega⟩) hW
theorem sim_c33 (g : pm_G) (l : Launch) : pm_c33 (pm_Sim g l) := by
  intro k N Y pc L st h Q idx len x a j hi h3 h11 hj hcat hk2 hnN hP p e R s m args below meth c H locs ls n0 Qw hC hR hL hn hlo hret
  have hW := hP p e R s m args below meth c H locs ls n0 Qw hC hR hL hn hlo hret
  obtain ⟨hd, hok, hlen, hoX⟩ := pm_dec4 hC.2.2.2.2.2.2.2.2.2.1 hi
  have hlen := len_e hlen
  subst hlen
  obtain ⟨hx, hb, hml, hr, hlk, hown, hin, hts, hF, hoK, hfr, hlc, hcl, hsl⟩ := hC
  have hlx := pm_lxV hoX (by omega)
  obtain ⟨i, rfl⟩ : ∃ i, a = i + 3 := ⟨a - 3, by omega⟩
  have hi8 : i < 8 := by omega
  obtain ⟨hl1, hl2, hl3⟩ := sm_len i hi8
  have had : pm_ad g (i + 3) = pg_c g (i + 3) := pm_ad_lo (by unfold pm_K; omega)
  rw [← hl3] at hW hj
  rw [hl1] at hj
  show W p l e R s m args below meth c H locs (h.1 - n0) (pm_sz h.1 - pm_sz n0) Qw (F0 m pc ls (.int j :: .ref (pm_ad g (i + 3)) :: st.map (pm_rv g)))
  rw [had]
  exact sm_back (r := some (.int ((pm_tbyt.getD i []).getD j.toNatClampNeg 0))) (rest := st.map (pm_rv g)) (va_runV (Ts := pm_big) (own := pm_cn (pm_oc Y)) (C := "java/lang/String") (As := [.int j]) (rest := st.map (pm_rv g)) (b := pg_c g (i + 3)) (nL := pm_ml Y) (n := 1) ⟨hx, hb, hml, hown, hts⟩ (sm_ca l g i hi8 j hj) ⟨callB_of 1 hts wg_ca rfl rfl rfl (hts _ wi_ca) (hts _ hlx) (by decide +kernel) ⟨by show 3 + 1 ≤ _; omega, by show 8 + (2 + 11) + 40 * 3 ≤ _; omega⟩, hts _ wk_ca, hts _ we_ca⟩ ⟨sm_blind, sm_recv hF hi8 hR.2.2.1, fun U hU hW => ⟨rfl, hF.warm hW, by rw [hU]; exact hR.2.2.1⟩⟩ rfl rfl hL.2.1 rfl (lv_room (by rw [pm_cats_rv]; exact hcat)) hd ⟨by omega, by have := pm_sz_le hnN; have := pm_sz_le hn; omega⟩) hW
