/-! ===== the pure machine and the real one ===== -/
/-- first address of made cells, addresses of constants, classes and slots, array classes, the heap at the start, the script, its length -/
abbrev pm_G : Type := Nat × (Nat → Nat) × va_G × (Nat → ClassId) × Heap × (Nat → Int32) × Nat
abbrev pg_b (g : pm_G) : Nat := g.1
abbrev pg_c (g : pm_G) : Nat → Nat := g.2.1
abbrev pg_D (g : pm_G) : va_G := g.2.2.1
abbrev pg_A (g : pm_G) : Nat → ClassId := g.2.2.2.1
abbrev pg_H (g : pm_G) : Heap := g.2.2.2.2.1
abbrev pg_x (g : pm_G) : Nat → Int32 := g.2.2.2.2.2.1
abbrev pg_L (g : pm_G) : Nat := g.2.2.2.2.2.2
def pm_ad (g : pm_G) (i : Nat) : Nat := if i < pm_K then pg_c g i else pg_b g + (i - pm_K)
def pm_rv (g : pm_G) (v : Value) : Value := match v with
  | .ref i => .ref (pm_ad g i)
  | .int x => .int x
  | .long x => .long x
  | .float x => .float x
  | .double x => .double x
  | .null => .null
  | .retAddr x => .retAddr x
theorem pm_rv_cat (g : pm_G) (v : Value) : (pm_rv g v).category = v.category := by cases v <;> rfl
theorem pm_ad_hi {g : pm_G} {i : Nat} (h : pm_K ≤ i) : pm_ad g i = pg_b g + (i - pm_K) := if_neg (by omega)
theorem pm_ad_ne {g : pm_G} {i j : Nat} (h : pm_K ≤ i) (h' : pm_K ≤ j) (hij : i ≠ j) : pm_ad g i ≠ pm_ad g j := by
  rw [pm_ad_hi h, pm_ad_hi h']; unfold pm_K at *; omega
/-- what stands at a place of a cell -/
def pm_val (h : pm_H) (i k : Nat) : Value := if (pm_sh i).1 < 100 then pm_rd (pm_fc (pm_sh i).1 k) h i k else if (pm_sh i).1 = 102 then .long (h.2.2.1 i k) else if (pm_sh i).1 = 103 then h.2.2.2 i k else .int (h.2.1 i k)
def pm_cell (g : pm_G) (h : pm_H) (H : Heap) (i : Nat) : Prop :=
  if (pm_sh i).1 < 100 then t_OB (pm_ad g i) ((pg_D g).1 (pm_sh i).1) (pm_cN (pm_sh i).1) ((pg_D g).2 (pm_sh i).1) H (fun k => pm_rv g (pm_val h i k))
  else H[pm_ad g i]? = some (arrV (pg_A g ((pm_sh i).1 - 100)) (pm_sh i).2 (fun k => pm_rv g (pm_val h i k)))
def pm_tys (g : pm_G) : List (ClassId × FieldType) := [(pg_A g 0, .int), (pg_A g 1, .boolean), (pg_A g 2, .long), (pg_A g 3, .object "PaperHouse$TypeLine")]
def pm_Rep (g : pm_G) (h : pm_H) (H : Heap) : Prop := pm_K ≤ h.1 ∧ H.size = pg_b g + (h.1 - pm_K) ∧ (∀ q, q < pg_b g → H[q]? = (pg_H g)[q]?) ∧ (h.2.1 0 = pg_x g ∧ h.2.2.1 0 0 = Int64.ofNat (pg_L g)) ∧ ∀ i, pm_K ≤ i → i < h.1 → pm_cell g h H i
/-- texts by their places -/
def pm_tlen : List Nat := [4, 3, 5, 4, 3, 4, 1, 1]
def pm_tbyt : List (List Int32) := [pm_txt 3, pm_txt 4, pm_txt 5, pm_txt 6, pm_txt 7, pm_txt 8, pm_txt 9, pm_txt 10]
def pm_ttx : List String := ["roll", "cut", "sheet", "fold", "box", "line", "x", "y"]
/-- what holds of the constants -/
def pm_Cs (g : pm_G) (s : State) : Prop :=
  (∀ i, i < 11 → pg_c g i < pg_b g) ∧ va_X (pg_c g 0) (pg_L g) (pg_x g) s (pg_H g) ∧ pg_L g ≤ 384 ∧ va_T .int (pg_c g 1) 16 (fun j => .int (pm_con 1 j)) (fun q => pg_b g ≤ q) s (pg_H g) ∧ va_T .int (pg_c g 2) 26 (fun j => .int (pm_con 2 j)) (fun q => pg_b g ≤ q) s (pg_H g)
  ∧ va_Z "PaperHouse$Plates" "THRESHOLDS" "[I" (.ref (pg_c g 1)) (fun q => pg_b g ≤ q) s (pg_H g) ∧ va_Z "PaperHouse$TypeRoom" "FIRST_WIDTHS" "[I" (.ref (pg_c g 2)) (fun q => pg_b g ≤ q) s (pg_H g)
  ∧ (∃ adV : Nat → Nat, vk_S 8 pm_tlen pm_tbyt (fun i => pg_c g (i + 3)) adV (fun q => pg_b g ≤ q) s (pg_H g)) ∧ va_Z "java/lang/String" "COMPACT_STRINGS" "Z" (.int 1) (fun q => pg_b g ≤ q) s (pg_H g)
  ∧ (∀ z ∈ pm_ls, vk_R (pm_cn z.1) z.2.1 (pm_ttx.getD (z.2.2 - 3) "") (pg_c g z.2.2) s) ∧ va_AO "PaperHouse$TypeLine" s ∧ va_Zq "jdk/internal/util/Preconditions" "SIOOBE_FORMATTER" "Ljava/util/function/BiFunction;" (fun q => pg_b g ≤ q) s (pg_H g)
def pm_Fx (g : pm_G) (s : State) : Prop := va_K (pg_D g) pm_cl (pm_tys g) s ∧ pm_Cs g s
theorem va_X_moved {b L : Nat} {xs : Nat → Int32} {u U : State} {H : Heap} (hvm : u.vm.Alike U.vm) (h : va_X b L xs u H) : va_X b L xs U H := by
  obtain ⟨scr, h1, h2, h3⟩ := h
  exact ⟨scr, h1, State.isArrayOf_alike hvm h2, h3⟩
theorem pm_Fx.warm {g : pm_G} {s U : State} (h : pm_Fx g s) (hW : s.WarmedH U.vm) : pm_Fx g U := by
  obtain ⟨hK, h1, h2, h3, h4, h5, h6, h7, ⟨adV, h8⟩, h9, h10, h11, h12⟩ := h
  have ha := hW.alike
  exact ⟨hK.moved ha, h1, va_X_moved ha h2, h3, h4.moved ha, h5.moved ha, h6.moved ha, h7.moved ha, ⟨adV, h8.moved ha⟩, h9.moved ha, fun z hz => (h10 z hz).warm hW, h11.moved ha, h12.moved ha⟩
/-- slots that the cells up to n have -/
def pm_sz : Nat → Nat
  | 0 => 0
  | n + 1 => pm_sz n + (pm_sh n).2
theorem pm_sz_le {a b : Nat} (h : a ≤ b) : pm_sz a ≤ pm_sz b := by
  induction b with
  | zero => cases Nat.le_zero.mp h; exact Nat.le_refl _
  | succ b ih =>
    rcases Nat.lt_or_ge a (b + 1) with q | q
    · exact Nat.le_trans (ih (by omega)) (Nat.le_add_right _ _)
    · have : a = b + 1 := by omega
      rw [this]; exact Nat.le_refl _
/-- the locals, as pairs -/
def pm_prs (g : pm_G) (L : List Value) : List (Nat × Value) := (List.range L.length).filterMap (fun j => (L[j]?).bind (fun v => if v = .null then none else some (j, pm_rv g v)))
theorem pm_prs_mem {g : pm_G} {L : List Value} {j : Nat} {v : Value} (h : L[j]? = some v) (hv : v ≠ .null) : (j, pm_rv g v) ∈ pm_prs g L := by
  refine List.mem_filterMap.mpr ⟨j, List.mem_range.mpr (List.getElem?_eq_some_iff.mp h).1, ?_⟩
  rw [h]
  simp [hv]
def pm_Lc (g : pm_G) (ls : Array Slot) (nL : Nat) (L : List Value) : Prop := L.length = nL ∧ ls.size = nL ∧ lv_wf ls ∧ ∀ (j : Nat) (v : Value), L[j]? = some v → v ≠ .null → ls[j]? = some (.val (pm_rv g v))
theorem pm_Lc.has {g : pm_G} {ls : Array Slot} {nL : Nat} {L : List Value} (h : pm_Lc g ls nL L) : lv_has ls nL (pm_prs g L) := by
  refine ⟨h.2.1, h.2.2.1, fun q hq => ?_⟩
  obtain ⟨j, hj, e⟩ := List.mem_filterMap.mp hq
  cases hL : L[j]? with
  | none => rw [hL] at e; cases e
  | some v =>
    rw [hL] at e
    by_cases hv : v = .null
    · simp [hv] at e
    · simp [hv] at e
      rw [← e]
      exact h.2.2.2 j v hL hv
/-- ends that a method may come to -/
def pm_rok (Y : pm_M) (pc : Nat) (r : Option Value) : Prop :=
  (∃ (v : Int32) (len : Nat) (x : Nat × Nat × Nat), r = some (.int v) ∧ pm_ins Y pc = some (.ireturn, len, x) ∧ (pm_rt Y = some .int ∨ (pm_rt Y = some .boolean ∧ (v = 0 ∨ v = 1)))) ∨
  (∃ (v : Int64) (len : Nat) (x : Nat × Nat × Nat), r = some (.long v) ∧ pm_ins Y pc = some (.lreturn, len, x) ∧ pm_rt Y = some .long) ∨
  (∃ (len : Nat) (x : Nat × Nat × Nat), r = none ∧ pm_ins Y pc = some (.return_, len, x) ∧ pm_rt Y = none)
/-- lengths as the rows of the kit have them -/
def pm_lenok (i : Instr) (len : Nat) : Bool := match i with
  | .bipush _ => Nat.beq len 2
  | .iload _ => Nat.beq len 2
  | .istore _ => Nat.beq len 2
  | .lload _ => Nat.beq len 2
  | .lstore _ => Nat.beq len 2
  | .aload _ => Nat.beq len 2
  | .astore _ => Nat.beq len 2
  | .ldc _ => Nat.beq len 2
  | .newarray _ => Nat.beq len 2
  | .sipush _ => Nat.beq len 3
  | .getfield _ => Nat.beq len 3
  | .putfield _ => Nat.beq len 3
  | .getstatic _ => Nat.beq len 3
  | .invokevirtual _ => Nat.beq len 3
  | .invokestatic _ => Nat.beq len 3
  | .invokespecial _ => Nat.beq len 3
  | .goto _ => Nat.beq len 3
  | .ifCond _ _ => Nat.beq len 3
  | .if_icmp _ _ => Nat.beq len 3
  | .iinc _ _ => Nat.beq len 3
  | .new _ => Nat.beq len 3
  | .anewarray _ => Nat.beq len 3
  | .ldc_w _ => Nat.beq len 3
  | .ldc2_w _ => Nat.beq len 3
  | .tableswitch _ _ _ _ => true
  | _ => Nat.beq len 1
/-- links of what isn't ours -/
def pm_prn (z : Nat) : MethodName := match z with
  | 1000 => ⟨"java/lang/String", "length", "()I"⟩
  | 1001 => ⟨"java/lang/String", "charAt", "(I)C"⟩
  | 1002 => ⟨"java/lang/System", "arraycopy", "(Ljava/lang/Object;ILjava/lang/Object;II)V"⟩
  | _ => ⟨"java/lang/Object", "<init>", "()V"⟩
def pm_lx : List ((Nat × Nat × Nat) × Nat) := [((11, 1, 1003), 26), ((7, 3, 1003), 34), ((6, 3, 1003), 57), ((1, 3, 1003), 103), ((1, 122, 1002), 112), ((4, 3, 1003), 174), ((5, 3, 1003), 187), ((9, 3, 1003), 236), ((8, 3, 1003), 245), ((2, 3, 1003), 304), ((0, 3, 1003), 336), ((10, 3, 1003), 370), ((3, 3, 1003), 423), ((7, 71, 1000), 537), ((7, 80, 1001), 551), ((12, 1, 1003), 1387), ((12, 259, 1000), 1704), ((12, 264, 1001), 1705)]
theorem pm_lx_ok : pm_lx.all (fun q => decide (tables_1[q.2]? = some (.methodLink (pm_cn q.1.1) q.1.2.1 (pm_prn q.1.2.2)))) = true := by decide +kernel
def pm_okX (oc : Nat) (q : pm_I) : Bool := match q with
  | (.invokevirtual idx, _, z, _, _) => Nat.blt z 1000 || pm_lx.any fun y => decide (y.1 = (oc, idx, z))
  | (.invokestatic idx, _, z, _, _) => Nat.blt z 1000 || pm_lx.any fun y => decide (y.1 = (oc, idx, z))
  | (.invokespecial idx, _, z, _, _) => Nat.blt z 1000 || pm_lx.any fun y => decide (y.1 = (oc, idx, z))
  | _ => true
theorem pm_lxin {oc idx z : Nat} (h : (Nat.blt z 1000 || pm_lx.any fun y => decide (y.1 = (oc, idx, z))) = true) (hz : 1000 ≤ z) : Cond.methodLink (pm_cn oc) idx (pm_prn z) ∈ pm_big := by
  rcases Bool.or_eq_true_iff.mp h with h | h
  · have h1 := Nat.le_of_ble_eq_true h
    omega
  · obtain ⟨q, hq, e⟩ := List.any_eq_true.mp h
    have e := of_decide_eq_true e
    have h2 := List.all_eq_true.mp pm_lx_ok q hq
    simp only [decide_eq_true_eq, e] at h2
    exact pm_in (tb_get h2) rfl
def pm_okL (Y : pm_M) : Bool := (List.range (pm_ln Y)).all fun pc => match pm_cd Y pc with | none => true | some q => pm_lenok q.1 q.2.1 && pm_okX (pm_oc Y) q
def pm_okK (Y : pm_M) : Prop := pm_okC Y = true ∧ pm_okL Y = true
theorem pm_dec4 {Y : pm_M} (hY : pm_okK Y) {pc : Nat} {q : pm_I} (h : pm_ins Y pc = some q) : decode (pm_by Y) pc = .ok (q.1, q.2.1) ∧ pm_okI (pm_oc Y) pc q = true ∧ pm_lenok q.1 q.2.1 = true ∧ pm_okX (pm_oc Y) q = true := by
  unfold pm_ins at h
  cases hb : Nat.blt pc (pm_ln Y) with
  | false => rw [hb] at h; cases h
  | true =>
    rw [hb] at h
    have h : pm_cd Y pc = some q := h
    have hlt : pc < pm_ln Y := Nat.le_of_ble_eq_true hb
    have h1 := List.all_eq_true.mp hY.1 pc (List.mem_range.mpr hlt)
    have h2 := List.all_eq_true.mp hY.2 pc (List.mem_range.mpr hlt)
    simp only [h] at h1 h2
    simp only [Bool.and_eq_true, decide_eq_true_eq] at h1
    simp only [Bool.and_eq_true] at h2
    exact ⟨h1.1, h1.2, h2.1, h2.2⟩
theorem pm_dec {Y : pm_M} (hY : pm_okK Y) {pc : Nat} {q : pm_I} (h : pm_ins Y pc = some q) : decode (pm_by Y) pc = .ok (q.1, q.2.1) ∧ pm_okI (pm_oc Y) pc q = true ∧ pm_lenok q.1 q.2.1 = true := (pm_dec4 hY h).elim fun a b => ⟨a, b.1, b.2.1⟩
/-- what a frame of method Y stands on -/
def pm_Cx (g : pm_G) (Y : pm_M) (k N n0 : Nat) (p : Program) (R : Room) (s : State) (m : MethodId) (args : Array Value) (meth : Method) (c : Code) : Prop :=
  p.tables.exec = Jvm.exec ∧ c.code = pm_by Y ∧ c.maxLocals = pm_ml Y ∧ meth.sig.returnType = pm_rt Y ∧ meth.locks = false ∧ s.vm.findClass (pm_cn (pm_oc Y)) = some m.cls ∧ (pm_kd Y = 2 → meth.name = "<init>") ∧ (∀ w ∈ pm_big, w.before args s = true) ∧ pm_Fx g s ∧ pm_okK Y ∧ (k ≤ R.frames ∧ 100 * k ≤ R.locals ∧ N - n0 ≤ R.cells ∧ pm_sz N - pm_sz n0 ≤ R.slots)
def pm_Rt (g : pm_G) (l : Launch) (Y : pm_M) (Q : Option Value → pm_H → Prop) (p : Program) (e : Env) (R : Room) (s : State) (m : MethodId) (args : Array Value) (below : List Frame) (meth : Method) (c : Code) (n0 : Nat) (Qw : State → Prop) : Prop :=
  ∀ (pc : Nat) (ls : Array Slot) (H : Heap) (locs : List Loc) (r : Option Value) (h : pm_H), Q r h → pm_rok Y pc r → pm_Rep g h H → n0 ≤ h.1 → (∀ q ∈ locs, pg_b g ≤ q.base) → W p l e R s m args below meth c H locs (h.1 - n0) (pm_sz h.1 - pm_sz n0) Qw (F0 m pc ls (r.toList.map (pm_rv g)))
/-- the real machine does it, too -/
def pm_Sim (g : pm_G) (l : Launch) : pm_J := fun k N Y pc L st h Q => ∀ (p : Program) (e : Env) (R : Room) (s : State) (m : MethodId) (args : Array Value) (below : List Frame) (meth : Method) (c : Code) (H : Heap) (locs : List Loc) (ls : Array Slot) (n0 : Nat) (Qw : State → Prop),
  pm_Cx g Y k N n0 p R s m args meth c → pm_Rep g h H → pm_Lc g ls (pm_ml Y) L → n0 ≤ h.1 → (∀ q ∈ locs, pg_b g ≤ q.base) → pm_Rt g l Y Q p e R s m args below meth c n0 Qw →
  W p l e R s m args below meth c H locs (h.1 - n0) (pm_sz h.1 - pm_sz n0) Qw (F0 m pc ls (st.map (pm_rv g)))
theorem sim_c0 (g : pm_G) (l : Launch) : pm_c0 (pm_Sim g l) := by
  intro k N Y pc L st h Q Q' hq hP p e R s m args below meth c H locs ls n0 Qw hC hR hL hn hlo hret
  exact hP p e R s m args below meth c H locs ls n0 Qw hC hR hL hn hlo (fun pc ls H locs r h' hQ => hret pc ls H locs r h' (hq r h' hQ))
theorem len_e {a b : Nat} (h : Nat.beq a b = true) : a = b := Nat.eq_of_beq_eq_true h
theorem sim_c1 (g : pm_G) (l : Launch) : pm_c1 (pm_Sim g l) := by
  intro k N Y pc L st h Q i len x st' hi hs hP p e R s m args below meth c H locs ls n0 Qw hC hR hL hn hlo hret
  have hW := hP p e R s m args below meth c H locs ls n0 Qw hC hR hL hn hlo hret
  have hx := hC.1
  have hb := hC.2.1
  obtain ⟨hd, -, hlen⟩ := pm_dec hC.2.2.2.2.2.2.2.2.2.1 hi
  dsimp only at hd hlen
  unfold pm_stk at hs
  split at hs
  · cases hs; have hlen := len_e hlen; subst hlen; exact lv_iconst hx hb hd rfl hW
  · cases hs; have hlen := len_e hlen; subst hlen; exact lv_bipush hx hb hd rfl hW
  · cases hs; have hlen := len_e hlen; subst hlen; exact lv_sipush hx hb hd rfl hW
  · cases hs; have hlen := len_e hlen; subst hlen; exact lv_lconst hx hb hd rfl hW
  · cases hs; have hlen := len_e hlen; subst hlen; exact lv_iadd hx hb hd hW
  · cases hs; have hlen := len_e hlen; subst hlen; exact lv_isub hx hb hd hW
  · cases hs; have hlen := len_e hlen; subst hlen; exact lv_imul hx hb hd hW
  · cases hs; have hlen := len_e hlen; subst hlen; exact lv_iand hx hb hd hW
  · cases hs; have hlen := len_e hlen; subst hlen; exact lv_ior hx hb hd hW
  · cases hs; have hlen := len_e hlen; subst hlen; exact lv_ixor hx hb hd hW
  · cases hs; have hlen := len_e hlen; subst hlen; exact lv_ishl hx hb hd hW
  · cases hs; have hlen := len_e hlen; subst hlen; exact lv_ishr hx hb hd hW
  · cases hs; have hlen := len_e hlen; subst hlen; exact lv_iushr hx hb hd rfl hW
  · cases hs; have hlen := len_e hlen; subst hlen; exact lv_ineg hx hb hd hW
  · cases hs; have hlen := len_e hlen; subst hlen; exact lv_ladd hx hb hd hW
  · cases hs; have hlen := len_e hlen; subst hlen; exact lv_lsub hx hb hd hW
  · cases hs; have hlen := len_e hlen; subst hlen; exact lv_lmul hx hb hd hW
  · cases hs; have hlen := len_e hlen; subst hlen; exact lv_land hx hb hd hW
  · cases hs; have hlen := len_e hlen; subst hlen; exact lv_lor hx hb hd hW
  · cases hs; have hlen := len_e hlen; subst hlen; exact lv_lxor hx hb hd hW
  · cases hs; have hlen := len_e hlen; subst hlen; exact lv_lneg hx hb hd hW
  · cases hs; have hlen := len_e hlen; subst hlen; exact lv_lshl hx hb hd rfl hW
  · cases hs; have hlen := len_e hlen; subst hlen; exact lv_lshr hx hb hd rfl hW
  · cases hs; have hlen := len_e hlen; subst hlen; exact lv_lushr hx hb hd rfl hW
  · cases hs; have hlen := len_e hlen; subst hlen; exact lv_i2l hx hb hd rfl hW
  · cases hs; have hlen := len_e hlen; subst hlen; exact lv_l2i hx hb hd rfl hW
  · cases hs; have hlen := len_e hlen; subst hlen; exact lv_dup hx hb hd rfl hW
  · cases hs; have hlen := len_e hlen; subst hlen; exact lv_dup hx hb hd rfl hW
  · cases hs; have hlen := len_e hlen; subst hlen; exact lv_dup2_11 hx hb hd rfl rfl hW
  · cases hs; have hlen := len_e hlen; subst hlen; exact lv_dup2_11 hx hb hd rfl rfl hW
  · cases hs; have hlen := len_e hlen; subst hlen; exact lv_pop (va := .int _) hx hb hd rfl hW
  · cases hs
theorem pm_Lc.at {g : pm_G} {ls : Array Slot} {nL : Nat} {L : List Value} (h : pm_Lc g ls nL L) {j : Nat} {v : Value} (hj : L[j]? = some v) (hv : v ≠ .null) : ls[j]? = some (.val (pm_rv g v)) := h.2.2.2 j v hj hv
theorem sim_c2 (g : pm_G) (l : Launch) : pm_c2 (pm_Sim g l) := by
  intro k N Y pc L st h Q i len x v hi hs hP p e R s m args below meth c H locs ls n0 Qw hC hR hL hn hlo hret
  have hW := hP p e R s m args below meth c H locs ls n0 Qw hC hR hL hn hlo hret
  have hx := hC.1
  have hb := hC.2.1
  obtain ⟨hd, -, hlen⟩ := pm_dec hC.2.2.2.2.2.2.2.2.2.1 hi
  dsimp only at hd hlen
  unfold pm_ld at hs
  split at hs
  all_goals first
    | (cases hs; done)
    | (split at hs
       · rename_i y hy
         cases hs
         have hlen := len_e hlen
         subst hlen
         have hg := hL.at hy (by intro z; cases z)
         first
          | exact lv_iload hx hb hd hg hW
          | exact lv_iload_n hx hb hd rfl hg hW
          | exact lv_lload hx hb hd hg hW
          | exact lv_lload_n hx hb hd rfl hg hW
          | exact lv_aload hx hb hd hg hW
          | exact lv_aload_n hx hb hd rfl hg hW
       · cases hs)
