theorem sim_c42 (g : pm_G) (l : Launch) : pm_c42 (pm_Sim g l) := by
  intro k N Y pc L h Q len x v hi hr hQ p e R s m args below meth c H locs ls n0 Qw hC hR hL hn hlo hret
  exact hret pc ls H locs (some (.int v)) h hQ (Or.inl ⟨v, len, x, rfl, hi, hr⟩) hR hn hlo
theorem sim_c43 (g : pm_G) (l : Launch) : pm_c43 (pm_Sim g l) := by
  intro k N Y pc L h Q len x v hi hr hQ p e R s m args below meth c H locs ls n0 Qw hC hR hL hn hlo hret
  exact hret pc ls H locs (some (.long v)) h hQ (Or.inr (Or.inl ⟨v, len, x, rfl, hi, hr⟩)) hR hn hlo
theorem sim_c44 (g : pm_G) (l : Launch) : pm_c44 (pm_Sim g l) := by
  intro k N Y pc L h Q len x hi hr hQ p e R s m args below meth c H locs ls n0 Qw hC hR hL hn hlo hret
  exact hret pc ls H locs none h hQ (Or.inr (Or.inr ⟨len, x, rfl, hi, hr⟩)) hR hn hlo
theorem pm_ofW {l : Launch} {y : MethodName} {ws ws' : List Cond} {rm : Room} {Pc : Array Value → State → Prop} {Qc : Array Value → State → Outcome → State → Prop} {mc ms : Nat} {free : Addr → Prop} {cc : ByteArray} {maxL : Nat} {ret : Option FieldType}
    (hy : plainFor y = true) (hw : ws = Cond.code y cc maxL ret :: ws')
    (body : ∀ p e s m args below meth c s₁, BodyLoose p l y (headSpec ws rm) cc maxL ret e s m args below meth c s₁ → c.maxLocals = maxL → Pc args s →
      W p l e (headSpec ws rm).room s m args below meth c s.heap [] 0 0 (MQ below Qc args s mc ms free) (entryFrame m args maxL)) : Met l y ws rm Pc Qc mc ms free := by
  refine MetFree.of_bodySF (code := cc) (maxLocals := maxL) (ret := ret) hy ?_ ?_
  · intro args s m h hn
    obtain ⟨meth, c, h1, h2, h3, h4, h5, h6, -, -⟩ := Cond.code_spec hn (atoms_spec (ws := ws) h _ (by rw [hw]; exact List.mem_cons_self))
    exact ⟨meth, c, h1, h2, h3, h4, h5, h6⟩
  · intro p e s m args below meth c s₁ B hml hP _
    have hh0 : s₁.heap = s.heap := by rw [B.state]; rfl
    obtain ⟨t, a1, o, b1, b2, b3⟩ := body p e s m args below meth c s₁ B hml hP s₁ hh0 (Stand.of_body B)
    exact ⟨t, o, a1, b1, b2, ⟨b3.1, b3.2⟩⟩
def pm_ws (Y : pm_M) : List Cond := Cond.code (pm_nm Y) (pm_by Y) (pm_ml Y) (pm_rt Y) :: pm_big
theorem pm_good_in : GoodIn pm_big pm_big := fun w hw => ⟨hw, good_of_word (List.mem_filter.mp hw).2⟩
theorem pm_ok_code {Y : pm_M} (h : pm_ok Y) : Cond.code (pm_nm Y) (pm_by Y) (pm_ml Y) (pm_rt Y) ∈ pm_big := pm_in (List.mem_append_right _ h.2.2) rfl
theorem pm_ws_good {Y : pm_M} (h : pm_ok Y) : GoodIn pm_big (pm_ws Y) := by
  intro w hw
  rcases List.mem_cons.mp hw with rfl | hw
  · exact pm_good_in _ (pm_ok_code h)
  · exact pm_good_in w hw
theorem pm_sel_in {ps : List (MethodName × Nat)} {Ts : List Cond} {q : MethodName × Nat} (h : q ∈ ps) : Cond.selects q.1.cls q.1 q.1 ∈ k2_sels ps ++ Ts := List.mem_append_left _ (List.mem_map.mpr ⟨q, h, rfl⟩)
theorem pm_sel_at {ps : List (MethodName × Nat)} {Ts : List Cond} {i : Nat} {n : MethodName} (h : (ps[i]?).map Prod.fst = some n) : Cond.selects n.cls n n ∈ k2_sels ps ++ Ts := by
  cases hp : ps[i]? with
  | none => rw [hp] at h; cases h
  | some q =>
    rw [hp] at h
    have h9 : q.1 = n := Option.some.inj h
    subst h9
    exact pm_sel_in (List.mem_of_getElem? hp)
theorem pm_condE {b A B : Bool} (h : cond b A B = true) : A = true ∨ B = true := by
  cases b
  · exact Or.inr h
  · exact Or.inl h
theorem pm_sel_tb {i : Nat} {n : MethodName} (h : (lw_privs[i]?).map Prod.fst = some n) : Cond.selects n.cls n n ∈ lw_tbl := by
  unfold lw_tbl
  exact pm_sel_at h
theorem pm_okV_spec {Y : pm_M} (h : pm_okV Y = true) : Cond.initialized (pm_nm Y).cls ∈ pm_big ∧ (pm_nm Y).cls = pm_cn (pm_oc Y) ∧ plainFor (pm_nm Y) = true ∧ ((pm_nm Y).cls ≠ "java/lang/invoke/MethodHandle" ∧ (pm_nm Y).cls ≠ "java/lang/invoke/VarHandle") ∧ (parseMethodDescriptor (pm_nm Y).desc).map (fun d => d.parameters.length) = some (pm_np Y) ∧ pm_ml Y ≤ 80 ∧
    (pm_kd Y = 0 → Cond.instanceMethod (pm_nm Y) ∈ pm_big ∧ Cond.selects (pm_nm Y).cls (pm_nm Y) (pm_nm Y) ∈ pm_big) ∧ (pm_kd Y = 1 → Cond.static (pm_nm Y) ∈ pm_big) ∧ (pm_kd Y = 2 → Cond.instanceMethod (pm_nm Y) ∈ pm_big ∧ (pm_nm Y).name = "<init>" ∧ pm_rt Y = none) := by
  unfold pm_okV at h
  simp only [Bool.and_eq_true, decide_eq_true_eq] at h
  obtain ⟨h1, h2, h3, h4, h5, h6, h7⟩ := h
  refine ⟨pm_in (tb_get h1) rfl, h2, h3, h4, h5, Nat.le_of_ble_eq_true h6, fun hk => ?_, fun hk => ?_, fun hk => ?_⟩
  · rw [hk] at h7
    simp only [Bool.and_eq_true, decide_eq_true_eq] at h7
    refine ⟨pm_in (tb_get h7.1) rfl, ?_⟩
    rcases pm_condE h7.2 with h8 | h8
    · exact pm_in (tb_get (of_decide_eq_true h8)) rfl
    · exact pm_in (pm_sel_tb (of_decide_eq_true h8)) rfl
  · rw [hk] at h7
    exact pm_in (tb_get (of_decide_eq_true h7)) rfl
  · rw [hk] at h7
    simp only [Bool.and_eq_true, decide_eq_true_eq] at h7
    exact ⟨pm_in (tb_get h7.1) rfl, h7.2.1, h7.2.2⟩
theorem pm_Fx.same {g : pm_G} {s U : State} (h : pm_Fx g s) (hv : U.vm = s.vm) : pm_Fx g U := by
  obtain ⟨hK, h1, h2, h3, h4, h5, h6, h7, ⟨adV, h8⟩, h9, h10, h11, h12⟩ := h
  have ha : s.vm.Alike U.vm := by rw [hv]; exact Vm.Alike.refl _
  exact ⟨hK.moved ha, h1, va_X_moved ha h2, h3, h4.moved ha, h5.moved ha, h6.moved ha, h7.moved ha, ⟨adV, h8.moved ha⟩, h9.moved ha, fun z hz => (h10 z hz).same hv, h11.moved ha, h12.moved ha⟩
/-- the locals at the entry -/
theorem pm_ent_sl (g : pm_G) : ∀ (As : List Value), (lg_sl (As.map (pm_rv g))).length = (As.flatMap pm_sl1).length ∧ ∀ (j : Nat) (v : Value), (As.flatMap pm_sl1)[j]? = some v → v ≠ .null → (lg_sl (As.map (pm_rv g)))[j]? = some (.val (pm_rv g v))
  | [] => ⟨rfl, fun j v h => by simp at h⟩
  | a :: As => by
    obtain ⟨ih1, ih2⟩ := pm_ent_sl g As
    have key : ∀ (pre : List Slot) (pre' : List Value), lg_sl ((a :: As).map (pm_rv g)) = pre ++ lg_sl (As.map (pm_rv g)) → (a :: As).flatMap pm_sl1 = pre' ++ As.flatMap pm_sl1 → pre.length = pre'.length → (∀ (j : Nat) (v : Value), pre'[j]? = some v → v ≠ .null → pre[j]? = some (.val (pm_rv g v))) → (lg_sl ((a :: As).map (pm_rv g))).length = ((a :: As).flatMap pm_sl1).length ∧ ∀ (j : Nat) (v : Value), ((a :: As).flatMap pm_sl1)[j]? = some v → v ≠ .null → (lg_sl ((a :: As).map (pm_rv g)))[j]? = some (.val (pm_rv g v)) := by
      intro pre pre' e1 e2 hl hp
      refine ⟨by rw [e1, e2, List.length_append, List.length_append, hl, ih1], fun j v h hv => ?_⟩
      rw [e2] at h
      rw [e1]
      rcases Nat.lt_or_ge j pre'.length with q | q
      · rw [List.getElem?_append_left q] at h
        rw [List.getElem?_append_left (by omega)]
        exact hp j v h hv
      · rw [List.getElem?_append_right q] at h
        rw [List.getElem?_append_right (by omega), hl]
        exact ih2 _ v h hv
    cases a with
    | long x =>
      refine key [.val (.long x), .second] [.long x, .null] rfl rfl rfl (fun j v h hv => ?_)
      match j, h with
      | 0, h => cases h; rfl
      | 1, h => cases h; exact absurd rfl hv
      | n + 2, h => simp at h
    | double x =>
      refine key [.val (.double x), .second] [.double x, .null] rfl rfl rfl (fun j v h hv => ?_)
      match j, h with
      | 0, h => cases h; rfl
      | 1, h => cases h; exact absurd rfl hv
      | n + 2, h => simp at h
    | int x =>
      refine key [.val (.int x)] [.int x] rfl rfl rfl (fun j v h hv => ?_)
      match j, h with
      | 0, h => cases h; rfl
      | n + 1, h => simp at h
    | float x =>
      refine key [.val (.float x)] [.float x] rfl rfl rfl (fun j v h hv => ?_)
      match j, h with
      | 0, h => cases h; rfl
      | n + 1, h => simp at h
    | null =>
      refine key [.val .null] [.null] rfl rfl rfl (fun j v h hv => ?_)
      match j, h with
      | 0, h => cases h; exact absurd rfl hv
      | n + 1, h => simp at h
    | ref x =>
      refine key [.val (pm_rv g (.ref x))] [.ref x] rfl rfl rfl (fun j v h hv => ?_)
      match j, h with
      | 0, h => cases h; rfl
      | n + 1, h => simp at h
    | retAddr x =>
      refine key [.val (.retAddr x)] [.retAddr x] rfl rfl rfl (fun j v h hv => ?_)
      match j, h with
      | 0, h => cases h; rfl
      | n + 1, h => simp at h
theorem pm_ent_Lc (g : pm_G) (As : List Value) {n : Nat} (h : (As.flatMap pm_sl1).length ≤ n) : pm_Lc g ((lg_sl (As.map (pm_rv g)) ++ List.replicate (n - (lg_sl (As.map (pm_rv g))).length) Slot.unset).toArray) n (pm_ent n As) := by
  obtain ⟨e1, e2⟩ := pm_ent_sl g As
  have hl := lv_entry (As.map (pm_rv g)) (n := n) (by rw [e1]; exact h)
  refine ⟨?_, hl.1, hl.2.1, fun j v hj hv => ?_⟩
  · show (As.flatMap pm_sl1 ++ List.replicate (n - (As.flatMap pm_sl1).length) Value.null).length = n
    rw [List.length_append, List.length_replicate]; omega
  · have hj : (As.flatMap pm_sl1 ++ List.replicate (n - (As.flatMap pm_sl1).length) Value.null)[j]? = some v := hj
    rcases Nat.lt_or_ge j (As.flatMap pm_sl1).length with q | q
    · rw [List.getElem?_append_left q] at hj
      rw [List.getElem?_toArray, List.getElem?_append_left (by omega)]
      exact e2 j v hj hv
    · rw [List.getElem?_append_right q] at hj
      obtain ⟨hh, e⟩ := List.getElem?_eq_some_iff.mp hj
      rw [List.getElem_replicate] at e
      exact absurd e.symm hv
/-- a callee's contract out of its pure run -/
theorem pm_met {g : pm_G} {l : Launch} {k N' : Nat} {Y : pm_M} (hok : pm_ok Y) (hokL : pm_okL Y = true) {As : List Value} {h : pm_H} {Q : Option Value → pm_H → Prop} (hfit : (As.flatMap pm_sl1).length ≤ pm_ml Y) (hQ : ∀ r h', Q r h' → h'.1 = N') (hP : pm_Sim g l k N' Y 0 (pm_ent (pm_ml Y) As) [] h Q) :
    Met l (pm_nm Y) (pm_ws Y) { frames := k, cells := N' - h.1, slots := pm_sz N' - pm_sz h.1, locals := 100 * k } (fun a U => a = (As.map (pm_rv g)).toArray ∧ pm_Fx g U ∧ pm_Rep g h U.heap) (fun _ _ o t => ∃ (r : Option Value) (h' : pm_H), o = .returned (r.map (pm_rv g)) ∧ Q r h' ∧ pm_Rep g h' t.heap) (N' - h.1) (pm_sz N' - pm_sz h.1) (fun q => pg_b g ≤ q) := by
  obtain ⟨w1, w2, w3, w4, w5, w6, w7, w8, w9⟩ := pm_okV_spec hok.2.1
  refine pm_ofW w3 rfl ?_
  intro p e s m args below meth c s₁ B hml hv
  obtain ⟨rfl, hF, hR⟩ := hv
  rw [lg_entry_eq]
  have hts := atoms_spec (ws := pm_ws Y) B.pre
  have hC : pm_Cx g Y k N' h.1 p { frames := k, cells := N' - h.1, slots := pm_sz N' - pm_sz h.1, locals := 100 * k } s m (As.map (pm_rv g)).toArray meth c :=
    ⟨B.exec, B.bytes, hml, B.returns, B.notSynchronized, by rw [← w2]; exact findClass_of_methodNamed B.named, fun hk => by rw [(name_of_methodNamed B.named B.method).1]; exact (w9 hk).2.1, fun w hw => hts w (List.mem_cons_of_mem _ hw), hF, ⟨hok.1, hokL⟩, Nat.le_refl _, Nat.le_refl _, Nat.le_refl _, Nat.le_refl _⟩
  have hw := hP p e { frames := k, cells := N' - h.1, slots := pm_sz N' - pm_sz h.1, locals := 100 * k } s m (As.map (pm_rv g)).toArray below meth c s.heap [] _ h.1 (MQ below (fun _ _ o t => ∃ (r : Option Value) (h' : pm_H), o = .returned (r.map (pm_rv g)) ∧ Q r h' ∧ pm_Rep g h' t.heap) (As.map (pm_rv g)).toArray s (N' - h.1) (pm_sz N' - pm_sz h.1) (fun q => pg_b g ≤ q)) hC hR (pm_ent_Lc g As hfit) (Nat.le_refl _) (fun q hq => by cases hq) ?_
  · rw [Nat.sub_self, Nat.sub_self] at hw
    exact hw
  · intro pc ls H locs r h' hq hrok hR' hn' hlo
    have hN := hQ r h' hq
    rw [hN]
    have hr := B.returns
    have hlk := B.notSynchronized
    rcases hrok with ⟨v, len, x, rfl, hi, hrt⟩ | ⟨v, len, x, rfl, hi, hrt⟩ | ⟨len, x, rfl, hi, hrt⟩
    · obtain ⟨hd, -, hlen⟩ := pm_dec (q := (.ireturn, len, x)) ⟨hok.1, hokL⟩ hi
      have hlen := len_e hlen
      subst hlen
      rcases hrt with hrt | ⟨hrt, h01⟩
      · exact W.iret B.exec B.bytes (hr.trans hrt) (fun t ht hW => ⟨some (.int v), h', rfl, hq, by rw [ht]; exact hR'⟩) hlo hd
      · exact W.zret B.exec B.bytes (hr.trans hrt) (by rcases h01 with rfl | rfl <;> rfl) (fun t ht hW => ⟨some (.int v), h', rfl, hq, by rw [ht]; exact hR'⟩) hlo hd
    · obtain ⟨hd, -, hlen⟩ := pm_dec (q := (.lreturn, len, x)) ⟨hok.1, hokL⟩ hi
      have hlen := len_e hlen
      subst hlen
      exact W.lret B.exec B.bytes (hr.trans hrt) (fun t ht hW => ⟨some (.long v), h', rfl, hq, by rw [ht]; exact hR'⟩) hlo hd
    · obtain ⟨hd, -, hlen⟩ := pm_dec (q := (.return_, len, x)) ⟨hok.1, hokL⟩ hi
      have hlen := len_e hlen
      subst hlen
      exact W.vret B.exec B.bytes (hr.trans hrt) (fun t ht hW => ⟨none, h', rfl, hq, by rw [ht]; exact hR'⟩) hlo hd
theorem pm_cats_rv (g : pm_G) (st : List Value) : ((st.map (pm_rv g)).map fun v => v.category).sum = pm_cats st := by
  unfold pm_cats
  rw [List.map_map]
  congr 1
  exact List.map_congr_left (fun v _ => pm_rv_cat g v)
theorem pm_mlin {oc idx z : Nat} (h : (Nat.ble 1000 z || pm_lm.any fun y => decide (y.1 = (oc, idx, z))) = true) {Y : pm_M} (hz : pm_mz z = some Y) : Cond.methodLink (pm_cn oc) idx (pm_nm Y) ∈ pm_big := by
  rcases Bool.or_eq_true_iff.mp h with h | h
  · have h1 := Nat.le_of_ble_eq_true h
    have h2 := pm_mz_lt z Y hz
    omega
  · obtain ⟨q, hq, e⟩ := List.any_eq_true.mp h
    have e := of_decide_eq_true e
    have h2 := List.all_eq_true.mp pm_lm_ok q hq
    simp only [Bool.and_eq_true, decide_eq_true_eq, e, hz, Option.map_some] at h2
    exact pm_in (tb_get h2.1) rfl
/-- behind a call -/
theorem pm_back {g : pm_G} {l : Launch} {k N N' : Nat} {Y : pm_M} {pc : Nat} {L rest : List Value} {h : pm_H} {Q : Option Value → pm_H → Prop} {p : Program} {e : Env} {R : Room} {s : State} {m : MethodId} {args : Array Value} {below : List Frame} {meth : Method} {c : Code} {H : Heap} {locs : List Loc} {ls : Array Slot} {n0 : Nat} {Qw : State → Prop} {st0 : List Value}
    (hC : pm_Cx g Y (k + 1) N n0 p R s m args meth c) (hL : pm_Lc g ls (pm_ml Y) L) (hn : n0 ≤ h.1) (hlo : ∀ q ∈ locs, pg_b g ≤ q.base) (hret : pm_Rt g l Y Q p e R s m args below meth c n0 Qw) (hN : h.1 ≤ N')
    (hr : va_Run p l e R s m args below meth c H locs (h.1 - n0) (pm_sz h.1 - pm_sz n0) (N' - h.1) (pm_sz N' - pm_sz h.1) (F0 m pc ls st0) (rest.map (pm_rv g)) (fun _ o t => ∃ (r : Option Value) (h' : pm_H), o = .returned (r.map (pm_rv g)) ∧ (h'.1 = N' ∧ pm_Sim g l (k + 1) N Y (pc + 3) L (r.toList ++ rest) h' Q) ∧ pm_Rep g h' t.heap) (fun q => pg_b g ≤ q)) :
    W p l e R s m args below meth c H locs (h.1 - n0) (pm_sz h.1 - pm_sz n0) Qw (F0 m pc ls st0) := by
  intro T hT X
  obtain ⟨v, st₀, t, T', L1, h0, X', hL1, e1, e2, ⟨r, h', hv, ⟨hN', hP⟩, hR'⟩, st⟩ := hr T hT X
  have hv : v = r.map (pm_rv g) := Outcome.returned.inj hv
  have hw := hP p e R s m args below meth c t.heap (locs ++ L1) ls n0 Qw hC hR' hL (by omega) (fun q hq => by
    rcases List.mem_append.mp hq with z | z
    · exact hlo q z
    · exact hL1 q z) hret
  have hz1 := pm_sz_le hn
  have hz2 := pm_sz_le hN
  have c1 : h'.1 - n0 = h.1 - n0 + (N' - h.1) := by omega
  have c2 : pm_sz h'.1 - pm_sz n0 = pm_sz h.1 - pm_sz n0 + (pm_sz N' - pm_sz h.1) := by rw [hN']; omega
  rw [c1, c2] at hw
  obtain ⟨t2, a1, b1⟩ := hw T' e1 X'
  refine ⟨t2, st t2 ?_, b1⟩
  have e3 : v.toList ++ rest.map (pm_rv g) = (r.toList ++ rest).map (pm_rv g) := by
    rw [hv, List.map_append]
    cases r <;> rfl
  show Steps p.tables e below (T'.setTop { F0 m pc ls st0 with pc := pc + 3, stack := v.toList ++ rest.map (pm_rv g) }) t2
  rw [e3]
  exact a1
