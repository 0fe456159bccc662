theorem pm_cl_get : ∀ {ci : Nat}, ci < 13 → pm_cl[ci]? = some (pm_cn ci, pm_cT ci, pm_cN ci)
  | 0, _ => rfl
  | 1, _ => rfl
  | 2, _ => rfl
  | 3, _ => rfl
  | 4, _ => rfl
  | 5, _ => rfl
  | 6, _ => rfl
  | 7, _ => rfl
  | 8, _ => rfl
  | 9, _ => rfl
  | 10, _ => rfl
  | 11, _ => rfl
  | 12, _ => rfl
  | n + 13, h => absurd h (by omega)
theorem pm_glay {C : String} {T : u_T} {N : Nat} {w : Cond} (h : w ∈ u_ws C T N) : goodWord w = true := by
  obtain ⟨k, -, rfl⟩ := List.mem_map.mp h
  unfold u_lay
  split <;> rfl
theorem pm_inB {C : String} {T : u_T} {N : Nat} (h : ∀ w ∈ u_ws C T N, w ∈ lw_tbl) : ∀ w ∈ u_ws C T N, w ∈ pm_big := fun w hw => pm_in (h w hw) (pm_glay hw)
theorem pm_inX : ∀ {ci : Nat}, ci < 13 → ∀ w ∈ u_ws (pm_cn ci) (pm_cT ci) (pm_cN ci), w ∈ pm_big
  | 0, _ => pm_inB inX0
  | 1, _ => pm_inB inX1
  | 2, _ => pm_inB inX2
  | 3, _ => pm_inB inX3
  | 4, _ => pm_inB inX4
  | 5, _ => pm_inB inX5
  | 6, _ => pm_inB inX6
  | 7, _ => pm_inB inX7
  | 8, _ => pm_inB inX8
  | 9, _ => pm_inB inX9
  | 10, _ => pm_inB inX10
  | 11, _ => pm_inB inX11
  | 12, _ => pm_inB inX12
  | n + 13, h => absurd h (by omega)
/-- the types of fields -/
def pm_tX (ci : Nat) : Nat → FieldType := ([tyX0, tyX1, tyX2, tyX3, tyX4, tyX5, tyX6, tyX7, tyX8, tyX9, tyX10, tyX11, tyX12] : List (Nat → FieldType)).getD ci tyX0
theorem pm_tX_ok : ∀ {ci : Nat}, ci < 13 → ∀ k, k < pm_cN ci → parseFieldDescriptor (pm_cT ci k).2.2.1 = some (pm_tX ci k)
  | 0, _ => tyX0_ok
  | 1, _ => tyX1_ok
  | 2, _ => tyX2_ok
  | 3, _ => tyX3_ok
  | 4, _ => tyX4_ok
  | 5, _ => tyX5_ok
  | 6, _ => tyX6_ok
  | 7, _ => tyX7_ok
  | 8, _ => tyX8_ok
  | 9, _ => tyX9_ok
  | 10, _ => tyX10_ok
  | 11, _ => tyX11_ok
  | 12, _ => tyX12_ok
  | n + 13, h => absurd h (by omega)
theorem pm_nX : ∀ {ci : Nat}, ci < 13 → ∀ a, a < pm_cN ci → ∀ b, b < pm_cN ci → a ≠ b → (pm_cT ci a).2.1 ≠ (pm_cT ci b).2.1
  | 0, _ => nmX0
  | 1, _ => nmX1
  | 2, _ => nmX2
  | 3, _ => nmX3
  | 4, _ => nmX4
  | 5, _ => nmX5
  | 6, _ => nmX6
  | 7, _ => nmX7
  | 8, _ => nmX8
  | 9, _ => nmX9
  | 10, _ => nmX10
  | 11, _ => nmX11
  | 12, _ => nmX12
  | n + 13, h => absurd h (by omega)
/-- how a field is kept is what its type says -/
theorem pm_fcX : (List.range 13).all (fun ci => (List.range (pm_cN ci)).all (fun k => decide ((pm_fc ci k = 0 ∧ pm_tX ci k = .int) ∨ (pm_fc ci k = 3 ∧ pm_tX ci k = .boolean) ∨ (pm_fc ci k = 1 ∧ pm_tX ci k = .long) ∨ (pm_fc ci k = 2 ∧ (pm_tX ci k).isReference = true)))) = true := by decide +kernel
theorem pm_fcT {ci k : Nat} (hci : ci < 13) (hk : k < pm_cN ci) : (pm_fc ci k = 0 ∧ pm_tX ci k = .int) ∨ (pm_fc ci k = 3 ∧ pm_tX ci k = .boolean) ∨ (pm_fc ci k = 1 ∧ pm_tX ci k = .long) ∨ (pm_fc ci k = 2 ∧ (pm_tX ci k).isReference = true) :=
  of_decide_eq_true (List.all_eq_true.mp (List.all_eq_true.mp pm_fcX ci (List.mem_range.mpr hci)) k (List.mem_range.mpr hk))
/-- a field's link -/
theorem pm_flink {oc idx ci f : Nat} (h : (pm_lf.any fun z => decide (z.1 = (oc, idx, ci, f))) = true) : Cond.fieldLink (pm_cn oc) idx (pm_cT ci f).1 (pm_cT ci f).2.1 (pm_cT ci f).2.2.1 ∈ pm_big ∧ f < pm_cN ci ∧ ci < 13 := by
  obtain ⟨z, hz, e⟩ := List.any_eq_true.mp h
  have e := of_decide_eq_true e
  have h2 := List.all_eq_true.mp pm_lf_ok z hz
  simp only [Bool.and_eq_true, decide_eq_true_eq, e, Nat.blt_eq] at h2
  exact ⟨pm_in (tb_get h2.1) rfl, h2.2.1, h2.2.2⟩
theorem pm_Rep.cell {g : pm_G} {h : pm_H} {H : Heap} (hR : pm_Rep g h H) {a : Nat} (hK : pm_K ≤ a) (ha : a < h.1) : pm_cell g h H a := hR.2.2.2.2 a hK ha
theorem pm_val_ob {h : pm_H} {a k : Nat} (hs : (pm_sh a).1 < 100) : pm_val h a k = pm_rd (pm_fc (pm_sh a).1 k) h a k := if_pos hs
theorem sim_c12 (g : pm_G) (l : Launch) : pm_c12 (pm_Sim g l) := by
  intro k N Y pc L st h Q idx len ci f t a hi hsh hK ha hP p e R s m args below meth c H locs ls n0 Qw hC hR hL hn hlo hret
  have hW := hP p e R s m args below meth c H locs ls n0 Qw hC hR hL hn hlo hret
  obtain ⟨hd, hok, hlen⟩ := pm_dec hC.2.2.2.2.2.2.2.2.2.1 hi
  obtain ⟨hx, hb, hml, hr, hlk, hown, hin, hts, hF, -⟩ := hC
  have hlen := len_e hlen
  subst hlen
  simp only [pm_okI, Bool.and_eq_true] at hok
  obtain ⟨hlink, hfN, hci⟩ := pm_flink hok.1
  have hct : t = pm_fc ci f := len_e hok.2
  have hcell := hR.cell hK ha
  unfold pm_cell at hcell
  rw [if_pos (by omega)] at hcell
  rw [hsh] at hcell
  obtain ⟨cell, q1, q2, q3, q4⟩ := hcell
  obtain ⟨hS, hfc, kC, hkC, hkind⟩ := hF.1.1 ci _ (pm_cl_get hci)
  obtain ⟨cf, kf, fi, fd, hi2, hsl⟩ := hS f hfN
  have hv := q4 f hfN
  dsimp only at hv
  rw [pm_val_ob (by omega), hsh, ← hct] at hv
  refine W.getf hx hb hown (hts _ hlink) hi2 (u_facts hfc hkC (u_lays hts (pm_inX hci) hfN) hi2).1 q1 (by rw [q3]; exact fun h => by cases h) (v := pm_rv g (pm_rd t h a f)) ?_ rfl rfl hd hW
  rw [hsl]; exact hv
/-- a cell is written: what must be seen to -/
theorem pm_Rep.put {g : pm_G} {h h' : pm_H} {H H' : Heap} (hR : pm_Rep g h H) {a : Nat} (hK : pm_K ≤ a) (h1 : h'.1 = h.1) (hI : h'.2.1 0 = h.2.1 0) (hJ : h'.2.2.1 0 = h.2.2.1 0) (ho : ∀ i, i ≠ a → pm_val h' i = pm_val h i) (hz : H'.size = H.size) (hq : ∀ q, q ≠ pm_ad g a → H'[q]? = H[q]?) (hc : pm_cell g h' H' a) : pm_Rep g h' H' := by
  refine ⟨by rw [h1]; exact hR.1, by rw [hz, h1]; exact hR.2.1, fun q hqb => ?_, ⟨hI.trans hR.2.2.2.1.1, by rw [hJ]; exact hR.2.2.2.1.2⟩, fun i hiK hi => ?_⟩
  · rw [hq q (by rw [pm_ad_hi hK]; omega)]; exact hR.2.2.1 q hqb
  · by_cases e : i = a
    · subst e; exact hc
    · have hc0 := hR.cell hiK (by rw [← h1]; exact hi)
      unfold pm_cell at hc0 ⊢
      have hne := hq (pm_ad g i) (pm_ad_ne hiK hK e)
      rw [ho i e]
      split
      · rename_i hlt
        rw [if_pos hlt] at hc0
        exact hc0.kept hne
      · rename_i hlt
        rw [if_neg hlt] at hc0
        rw [hne]; exact hc0
theorem pm_up_at {α : Type} {f : Nat → Nat → α} {a k : Nat} {x : α} {j : Nat} : pm_up f a k x a j = if j = k then x else f a j := by rw [pm_up_eq]
theorem pm_wI_o {h : pm_H} {a k : Nat} {x : Int32} {i : Nat} (hi : i ≠ a) : pm_val (pm_wI h a k x) i = pm_val h i := by
  funext j; simp only [pm_val, pm_rd, pm_wI, pm_up_ne hi]
theorem pm_wJ_o {h : pm_H} {a k : Nat} {x : Int64} {i : Nat} (hi : i ≠ a) : pm_val (pm_wJ h a k x) i = pm_val h i := by
  funext j; simp only [pm_val, pm_rd, pm_wJ, pm_up_ne hi]
theorem pm_wR_o {h : pm_H} {a k : Nat} {x : Value} {i : Nat} (hi : i ≠ a) : pm_val (pm_wR h a k x) i = pm_val h i := by
  funext j; simp only [pm_val, pm_rd, pm_wR, pm_up_ne hi]
theorem pm_0ne {a : Nat} (h : pm_K ≤ a) : (0 : Nat) ≠ a := by unfold pm_K at h; omega
/-- a field is written -/
theorem pm_field {g : pm_G} {s : State} {args : Array Value} (hts : ∀ w ∈ pm_big, w.before args s = true) (hF : pm_Fx g s) {ci f : Nat} (hci : ci < 13) (hfN : f < pm_cN ci) {cell : Cell} {V : Nat → Value} (q4 : ∀ k, k < pm_cN ci → cell.slots[(pg_D g).2 ci k]? = some (V k)) (v : Value) :
    ∀ k, k < pm_cN ci → (cell.setSlot ((pg_D g).2 ci f) v).slots[(pg_D g).2 ci k]? = some (updV V f v k) :=
  t_set q4 (va_apart (own := "") hts (pm_inX hci) (pm_tX ci) (pm_tX_ok hci) (pm_nX hci) hF.1 (pm_cl_get hci)) hfN v
theorem pm_go {g : pm_G} {l : Launch} {k N : Nat} {Y : pm_M} {pc : Nat} {L st : List Value} {h h' : pm_H} {Q : Option Value → pm_H → Prop} {p : Program} {e : Env} {R : Room} {s : State} {m : MethodId} {args : Array Value} {below : List Frame} {meth : Method} {c : Code} {H H' : Heap} {locs : List Loc} {ls : Array Slot} {n0 : Nat} {Qw : State → Prop} {a i : Nat}
    (hC : pm_Cx g Y k N n0 p R s m args meth c) (hR : pm_Rep g h H) (hL : pm_Lc g ls (pm_ml Y) L) (hn : n0 ≤ h.1) (hlo : ∀ q ∈ locs, pg_b g ≤ q.base) (hret : pm_Rt g l Y Q p e R s m args below meth c n0 Qw) (hK : pm_K ≤ a)
    (h1 : h'.1 = h.1) (hI : h'.2.1 0 = h.2.1 0) (hJ : h'.2.2.1 0 = h.2.2.1 0) (ho : ∀ i, i ≠ a → pm_val h' i = pm_val h i) (e2 : H'.size = H.size) (e3 : ∀ q, q ≠ pm_ad g a → H'[q]? = H[q]?) (hc : pm_cell g h' H' a)
    (hP : pm_Sim g l k N Y pc L st h' Q) : W p l e R s m args below meth c H' (locs ++ [⟨pm_ad g a, i⟩]) (h.1 - n0) (pm_sz h.1 - pm_sz n0) Qw (F0 m pc ls (st.map (pm_rv g))) := by
  have hw := hP p e R s m args below meth c H' (locs ++ [⟨pm_ad g a, i⟩]) ls n0 Qw hC (hR.put hK h1 hI hJ ho e2 e3 hc) hL (by rw [h1]; exact hn) (fun q hq => by
    rcases List.mem_append.mp hq with z | z
    · exact hlo q z
    · rw [List.mem_singleton] at z; subst z; show pg_b g ≤ pm_ad g a; rw [pm_ad_hi hK]; omega) hret
  rw [h1] at hw
  exact hw
theorem pm_decl : (List.range 13).all (fun ci => (List.range (pm_cN ci)).all (fun k => decide ((pm_cT ci k).1 = pm_cn ci))) = true := by decide +kernel
theorem sim_put {g : pm_G} {l : Launch} {k N : Nat} {Y : pm_M} {pc : Nat} {L st : List Value} {h h' : pm_H} {Q : Option Value → pm_H → Prop} {idx len ci f t a : Nat} {v : Value}
    (hi : pm_ins Y pc = some (.putfield idx, len, ci, f, t)) (hfin : (pm_cT ci f).2.2.2 = false ∨ ((pm_cT ci f).2.2.2 = true ∧ pm_kd Y = 2 ∧ pm_oc Y = ci)) (hsh : (pm_sh a).1 = ci) (hK : pm_K ≤ a) (ha : a < h.1)
    (hty : ci < 13 → f < pm_cN ci → t = pm_fc ci f → narrow (pm_tX ci f) (pm_rv g v) = pm_rv g v ∧ fits (pm_tX ci f) (pm_rv g v) = true)
    (h1 : h'.1 = h.1) (hI : h'.2.1 0 = h.2.1 0) (hJ : h'.2.2.1 0 = h.2.2.1 0) (ho : ∀ i, i ≠ a → pm_val h' i = pm_val h i) (hv : ci < 13 → t = pm_fc ci f → ∀ j, pm_val h' a j = updV (pm_val h a) f v j)
    (hP : pm_Sim g l k N Y (pc + len) L st h' Q) : pm_Sim g l k N Y pc L (v :: .ref a :: st) h Q := by
  intro p e R s m args below meth c H locs ls n0 Qw hC hR hL hn hlo hret
  have hC0 := hC
  obtain ⟨hd, hok, hlen⟩ := pm_dec hC.2.2.2.2.2.2.2.2.2.1 hi
  obtain ⟨hx, hb, hml, hr, hlk, hown, hin, hts, hF, -⟩ := hC
  have hlen := len_e hlen
  subst hlen
  simp only [pm_okI, Bool.and_eq_true] at hok
  obtain ⟨hlink, hfN, hci⟩ := pm_flink hok.1
  have hct : t = pm_fc ci f := len_e hok.2
  obtain ⟨hnar, hfit⟩ := hty hci hfN hct
  have hcell := hR.cell hK ha
  unfold pm_cell at hcell
  rw [if_pos (by omega)] at hcell
  rw [hsh] at hcell
  obtain ⟨cell, q1, q2, q3, q4⟩ := hcell
  obtain ⟨hS, hfc, kC, hkC, hkind⟩ := hF.1.1 ci _ (pm_cl_get hci)
  obtain ⟨cf, kf, fi, fd, hi2, hsl⟩ := hS f hfN
  have hst := (u_facts hfc hkC (u_lays hts (pm_inX hci) hfN) hi2).1
  have go : ∀ H' : Heap, H'[pm_ad g a]? = some (cell.setSlot fd.slot (pm_rv g v)) → H'.size = H.size → (∀ q, q ≠ pm_ad g a → H'[q]? = H[q]?) → W p l e R s m args below meth c H' (locs ++ [⟨pm_ad g a, fd.slot⟩]) (h.1 - n0) (pm_sz h.1 - pm_sz n0) Qw (F0 m (pc + 3) ls (st.map (pm_rv g))) := by
    intro H' e1 e2 e3
    rw [hsl] at e1
    refine pm_go hC0 hR hL hn hlo hret hK h1 hI hJ ho e2 e3 ?_ hP
    unfold pm_cell
    rw [if_pos (by omega), hsh]
    refine ⟨_, e1, q2, q3, fun j hj => ?_⟩
    rw [pm_field hts hF hci hfN q4 _ j hj]
    show _ = some (pm_rv g (pm_val h' a j))
    rw [hv hci hct j]
    unfold updV
    by_cases z : j = f
    · rw [if_pos z, if_pos z]
    · rw [if_neg z, if_neg z]
  have hlay := hts _ (pm_inX hci _ (u_in_lay hfN))
  rcases hfin with hf | ⟨hf, hkd, hoc⟩
  · unfold u_lay at hlay
    rw [if_neg (by rw [hf]; decide)] at hlay
    have h6 := u_store hfc hkC hkind hlay hi2 (pm_tX_ok hci f hfN) hnar hfit
    exact W.putK hx hb (f := fd) ⟨hown, hts _ hlink, ⟨_, _, _, hi2⟩, hst⟩ (by rw [q2]; exact h6) q1 q3 (by rw [hsl]; exact k2_hasslot (q4 f hfN)) rfl rfl hd go
  · unfold u_lay at hlay
    rw [if_pos hf] at hlay
    have hdecl := List.all_eq_true.mp pm_decl ci (List.mem_range.mpr hci)
    have hdecl := of_decide_eq_true (List.all_eq_true.mp hdecl f (List.mem_range.mpr hfN))
    have hcf : m.cls = cf := by
      obtain ⟨_, _, c', _, _, _, -, -, hf', -, -, -, hown2, -⟩ := Cond.laysFinal_spec hlay
      have e1 : c' = cf := by have := hi2.symm.trans hf'; simp at this; exact this.1.symm
      rw [hdecl, ← hoc] at hown2
      rw [← e1]; exact Option.some.inj (hown.symm.trans hown2)
    exact W.putFinK hx hb hown (hts _ hlink) hi2 hst hcf (hin hkd) (by rw [q2]; exact u_fits hfc hkC hkind (Or.inr hlay) hi2 (pm_tX_ok hci f hfN) hnar hfit) q1 q3 (by rw [hsl]; exact k2_hasslot (q4 f hfN)) rfl rfl hd go
theorem sim_c13 (g : pm_G) (l : Launch) : pm_c13 (pm_Sim g l) := by
  intro k N Y pc L st h Q idx len ci f t a x hi ht hf hb01 hsh hK ha hP
  refine sim_put (h' := pm_wI h a f x) (v := .int x) hi (Or.inl hf) hsh hK ha (fun hci hfN hct => ?_) rfl (pm_up_ne (pm_0ne hK)) rfl (fun i hi => pm_wI_o hi) (fun hci hct j => ?_) hP
  · rcases pm_fcT hci hfN with ⟨z, z2⟩ | ⟨z, z2⟩ | ⟨z, z2⟩ | ⟨z, z2⟩
    · rw [z2]; exact ⟨rfl, rfl⟩
    · rw [z2]
      rcases hb01 (hct.trans z) with rfl | rfl
      · exact ⟨rfl, rfl⟩
      · exact ⟨rfl, rfl⟩
    · omega
    · omega
  · have hlt : (pm_sh a).1 < 100 := by omega
    rw [pm_val_ob hlt, hsh]
    unfold updV
    by_cases z : j = f
    · subst z
      rw [if_pos rfl, ← hct]
      have hz : pm_up h.2.1 a j x a j = x := by rw [pm_up_at]; simp
      rcases ht with rfl | rfl
      · show Value.int (pm_up h.2.1 a j x a j) = _; rw [hz]
      · show Value.int (pm_up h.2.1 a j x a j) = _; rw [hz]
    · rw [if_neg z, pm_val_ob hlt, hsh]
      have hz : pm_up h.2.1 a f x a j = h.2.1 a j := by rw [pm_up_at]; simp [z]
      unfold pm_rd pm_wI
      dsimp only
      rw [hz]
theorem sim_c14 (g : pm_G) (l : Launch) : pm_c14 (pm_Sim g l) := by
  intro k N Y pc L st h Q idx len ci f a x hi hf hsh hK ha hP
  refine sim_put (h' := pm_wJ h a f x) (v := .long x) hi (Or.inl hf) hsh hK ha (fun hci hfN hct => ?_) rfl rfl (pm_up_ne (pm_0ne hK)) (fun i hi => pm_wJ_o hi) (fun hci hct j => ?_) hP
  · rcases pm_fcT hci hfN with ⟨z, z2⟩ | ⟨z, z2⟩ | ⟨z, z2⟩ | ⟨z, z2⟩
    · omega
    · omega
    · rw [z2]; exact ⟨rfl, rfl⟩
    · omega
  · have hlt : (pm_sh a).1 < 100 := by omega
    rw [pm_val_ob hlt, hsh]
    unfold updV
    by_cases z : j = f
    · subst z
      rw [if_pos rfl, ← hct]
      have hz : pm_up h.2.2.1 a j x a j = x := by rw [pm_up_at]; simp
      show Value.long (pm_up h.2.2.1 a j x a j) = _; rw [hz]
    · rw [if_neg z, pm_val_ob hlt, hsh]
      have hz : pm_up h.2.2.1 a f x a j = h.2.2.1 a j := by rw [pm_up_at]; simp [z]
      unfold pm_rd pm_wJ
      dsimp only
      rw [hz]
theorem pm_refty {ty : FieldType} (h : ty.isReference = true) (b : Nat) : narrow ty (.ref b) = .ref b ∧ fits ty (.ref b) = true := by
  cases ty <;> first | exact ⟨rfl, rfl⟩ | (simp [FieldType.isReference] at h)
theorem sim_c15 (g : pm_G) (l : Launch) : pm_c15 (pm_Sim g l) := by
  intro k N Y pc L st h Q idx len ci f a b hi hsh hK ha hf hP
  refine sim_put (h' := pm_wR h a f (.ref b)) (v := .ref b) hi ?_ hsh hK ha (fun hci hfN hct => ?_) rfl rfl rfl (fun i hi => pm_wR_o hi) (fun hci hct j => ?_) hP
  · cases hz : (pm_cT ci f).2.2.2 with
    | false => exact Or.inl rfl
    | true => exact Or.inr ⟨rfl, hf hz⟩
  · rcases pm_fcT hci hfN with ⟨z, z2⟩ | ⟨z, z2⟩ | ⟨z, z2⟩ | ⟨z, z2⟩
    · omega
    · omega
    · omega
    · exact pm_refty z2 _
  · have hlt : (pm_sh a).1 < 100 := by omega
    rw [pm_val_ob hlt, hsh]
    unfold updV
    by_cases z : j = f
    · subst z
      rw [if_pos rfl, ← hct]
      have hz : pm_up h.2.2.2 a j (.ref b) a j = .ref b := by rw [pm_up_at]; simp
      show pm_up h.2.2.2 a j (.ref b) a j = _; rw [hz]
    · rw [if_neg z, pm_val_ob hlt, hsh]
      have hz : pm_up h.2.2.2 a f (.ref b) a j = h.2.2.2 a j := by rw [pm_up_at]; simp [z]
      unfold pm_rd pm_wR
      dsimp only
      rw [hz]
/-! arrays -/
theorem pm_Rep.arr {g : pm_G} {h : pm_H} {H : Heap} (hR : pm_Rep g h H) {a kd : Nat} (hK : pm_K ≤ a) (ha : a < h.1) (hs : (pm_sh a).1 = kd) (hkd : 100 ≤ kd) : H[pm_ad g a]? = some (arrV (pg_A g (kd - 100)) (pm_sh a).2 (fun k => pm_rv g (pm_val h a k))) := by
  have hc := hR.cell hK ha
  unfold pm_cell at hc
  rw [if_neg (by omega), hs] at hc
  exact hc
theorem pm_val_i {h : pm_H} {a k kd : Nat} (hs : (pm_sh a).1 = kd) (hk : kd = 100 ∨ kd = 101) : pm_val h a k = .int (h.2.1 a k) := by
  unfold pm_val
  rw [hs, if_neg (by omega), if_neg (by omega), if_neg (by omega)]
theorem pm_val_j {h : pm_H} {a k : Nat} (hs : (pm_sh a).1 = 102) : pm_val h a k = .long (h.2.2.1 a k) := by
  unfold pm_val
  rw [hs]; rfl
theorem pm_val_r {h : pm_H} {a k : Nat} (hs : (pm_sh a).1 = 103) : pm_val h a k = h.2.2.2 a k := by
  unfold pm_val
  rw [hs]; rfl
theorem pm_ty {g : pm_G} {s : State} (hF : pm_Fx g s) {t : Nat} {ty : FieldType} (ht : (pm_tys g)[t]? = some (pg_A g t, ty)) (n : Nat) (z : Nat → Value) : s.isArrayOf (arrV (pg_A g t) n z) ty := (hF.1.2 t _ ht).1 n z
theorem pm_inl {j : Int32} {n : Nat} (h : vp_in j n) : j.toNatClampNeg < n := Nat.not_le.mp fun q => h (Or.inr q)
theorem sim_c16 (g : pm_G) (l : Launch) : pm_c16 (pm_Sim g l) := by
  intro k N Y pc L st h Q len x a j hi hs hK ha hj hP p e R s m args below meth c H locs ls n0 Qw hC hR hL hn hlo hret
  have hW := hP p e R s m args below meth c H locs ls n0 Qw hC hR hL hn hlo hret
  obtain ⟨hd, -, hlen⟩ := pm_dec hC.2.2.2.2.2.2.2.2.2.1 hi
  have hlen := len_e hlen
  subst hlen
  exact W.iald (v := .int (h.2.1 a j.toNatClampNeg)) hC.1 hC.2.1 (hR.arr hK ha hs (by omega)) (pm_ty hC.2.2.2.2.2.2.2.2.1 (t := 0) rfl _ _) (fun q => by cases q) (by rw [arrV_size]; exact hj) (by rw [arrV_read _ _ (pm_inl hj), pm_val_i hs (Or.inl rfl)]; rfl) rfl rfl hd hW
theorem sim_c18 (g : pm_G) (l : Launch) : pm_c18 (pm_Sim g l) := by
  intro k N Y pc L st h Q len x a j hi hs hK ha hj hP p e R s m args below meth c H locs ls n0 Qw hC hR hL hn hlo hret
  have hW := hP p e R s m args below meth c H locs ls n0 Qw hC hR hL hn hlo hret
  obtain ⟨hd, -, hlen⟩ := pm_dec hC.2.2.2.2.2.2.2.2.2.1 hi
  have hlen := len_e hlen
  subst hlen
  exact W.zald (v := .int (h.2.1 a j.toNatClampNeg)) hC.1 hC.2.1 (hR.arr hK ha hs (by omega)) (pm_ty hC.2.2.2.2.2.2.2.2.1 (t := 1) rfl _ _) (fun q => by cases q) (by rw [arrV_size]; exact hj) (by rw [arrV_read _ _ (pm_inl hj), pm_val_i hs (Or.inr rfl)]; rfl) rfl rfl hd hW
theorem sim_c20 (g : pm_G) (l : Launch) : pm_c20 (pm_Sim g l) := by
  intro k N Y pc L st h Q len x a j hi hs hK ha hj hP p e R s m args below meth c H locs ls n0 Qw hC hR hL hn hlo hret
  have hW := hP p e R s m args below meth c H locs ls n0 Qw hC hR hL hn hlo hret
  obtain ⟨hd, -, hlen⟩ := pm_dec hC.2.2.2.2.2.2.2.2.2.1 hi
  have hlen := len_e hlen
  subst hlen
  exact W.lald (v := .long (h.2.2.1 a j.toNatClampNeg)) hC.1 hC.2.1 (hR.arr hK ha hs (by omega)) (pm_ty hC.2.2.2.2.2.2.2.2.1 (t := 2) rfl _ _) (fun q => by cases q) (by rw [arrV_size]; exact hj) (by rw [arrV_read _ _ (pm_inl hj), pm_val_j hs]; rfl) rfl rfl hd hW
theorem sim_c22 (g : pm_G) (l : Launch) : pm_c22 (pm_Sim g l) := by
  intro k N Y pc L st h Q len x a j hi hs hK ha hj hP p e R s m args below meth c H locs ls n0 Qw hC hR hL hn hlo hret
  have hW := hP p e R s m args below meth c H locs ls n0 Qw hC hR hL hn hlo hret
  obtain ⟨hd, -, hlen⟩ := pm_dec hC.2.2.2.2.2.2.2.2.2.1 hi
  have hlen := len_e hlen
  subst hlen
  exact W.aald (v := pm_rv g (h.2.2.2 a j.toNatClampNeg)) hC.1 hC.2.1 (hR.arr hK ha hs (by omega)) (pm_ty hC.2.2.2.2.2.2.2.2.1 (t := 3) rfl _ _) rfl (fun q => by cases q) (by rw [arrV_size]; exact hj) (by rw [arrV_read _ _ (pm_inl hj), pm_val_r hs]) rfl rfl hd hW
/-- an array is written -/
theorem pm_acell {g : pm_G} {h h' : pm_H} {H' : Heap} {a kd j : Nat} {v : Value} (hs : (pm_sh a).1 = kd) (hkd : 100 ≤ kd) (e1 : H'[pm_ad g a]? = some ((arrV (pg_A g (kd - 100)) (pm_sh a).2 (fun k => pm_rv g (pm_val h a k))).setSlot j (pm_rv g v))) (hv : ∀ i, pm_val h' a i = updV (pm_val h a) j v i) : pm_cell g h' H' a := by
  unfold pm_cell
  rw [if_neg (by omega), hs, e1, arrV_store]
  congr 2
  funext i
  rw [hv i]
  unfold updV
  by_cases z : i = j
  · rw [if_pos z, if_pos z]
  · rw [if_neg z, if_neg z]
theorem pm_wI_v {h : pm_H} {a k kd : Nat} {x : Int32} (hs : (pm_sh a).1 = kd) (hk : kd = 100 ∨ kd = 101) : ∀ i, pm_val (pm_wI h a k x) a i = updV (pm_val h a) k (.int x) i := by
  intro i
  rw [pm_val_i hs hk]
  show Value.int (pm_up h.2.1 a k x a i) = _
  rw [pm_up_at]
  unfold updV
  by_cases z : i = k
  · rw [if_pos z, if_pos z]
  · rw [if_neg z, if_neg z, pm_val_i hs hk]
theorem sim_c17 (g : pm_G) (l : Launch) : pm_c17 (pm_Sim g l) := by
  intro k N Y pc L st h Q len x a j v hi hs hK ha hj hP p e R s m args below meth c H locs ls n0 Qw hC hR hL hn hlo hret
  obtain ⟨hd, -, hlen⟩ := pm_dec hC.2.2.2.2.2.2.2.2.2.1 hi
  have hlen := len_e hlen
  subst hlen
  exact W.iast hC.1 hC.2.1 (hR.arr hK ha hs (by omega)) (pm_ty hC.2.2.2.2.2.2.2.2.1 (t := 0) rfl _ _) (fun q => by cases q) (by rw [arrV_size]; exact hj) rfl rfl hd (fun H' e1 e2 e3 => pm_go (h' := pm_wI h a j.toNatClampNeg v) hC hR hL hn hlo hret hK rfl (pm_up_ne (pm_0ne hK)) rfl (fun i hi => pm_wI_o hi) e2 e3 (pm_acell (v := .int v) hs (by omega) e1 (pm_wI_v hs (Or.inl rfl))) hP)
theorem sim_c19 (g : pm_G) (l : Launch) : pm_c19 (pm_Sim g l) := by
  intro k N Y pc L st h Q len x a j v hi hs hK ha hj h01 hP p e R s m args below meth c H locs ls n0 Qw hC hR hL hn hlo hret
  obtain ⟨hd, -, hlen⟩ := pm_dec hC.2.2.2.2.2.2.2.2.2.1 hi
  have hlen := len_e hlen
  subst hlen
  have hnar : narrow .boolean (.int v) = .int v := by rcases h01 with rfl | rfl <;> rfl
  exact W.zast hC.1 hC.2.1 (hR.arr hK ha hs (by omega)) (pm_ty hC.2.2.2.2.2.2.2.2.1 (t := 1) rfl _ _) (fun q => by cases q) (by rw [arrV_size]; exact hj) rfl rfl hd (fun H' e1 e2 e3 => pm_go (h' := pm_wI h a j.toNatClampNeg v) hC hR hL hn hlo hret hK rfl (pm_up_ne (pm_0ne hK)) rfl (fun i hi => pm_wI_o hi) e2 e3 (pm_acell (v := .int v) hs (by omega) (by rw [hnar] at e1; exact e1) (pm_wI_v hs (Or.inr rfl))) hP)
theorem sim_c21 (g : pm_G) (l : Launch) : pm_c21 (pm_Sim g l) := by
  intro k N Y pc L st h Q len x a j v hi hs hK ha hj hP p e R s m args below meth c H locs ls n0 Qw hC hR hL hn hlo hret
  obtain ⟨hd, -, hlen⟩ := pm_dec hC.2.2.2.2.2.2.2.2.2.1 hi
  have hlen := len_e hlen
  subst hlen
  refine W.last hC.1 hC.2.1 (hR.arr hK ha hs (by omega)) (pm_ty hC.2.2.2.2.2.2.2.2.1 (t := 2) rfl _ _) (fun q => by cases q) (by rw [arrV_size]; exact hj) rfl rfl hd (fun H' e1 e2 e3 => pm_go (h' := pm_wJ h a j.toNatClampNeg v) hC hR hL hn hlo hret hK rfl rfl (pm_up_ne (pm_0ne hK)) (fun i hi => pm_wJ_o hi) e2 e3 (pm_acell (v := .long v) hs (by omega) e1 (fun i => ?_)) hP)
  rw [pm_val_j hs]
  show Value.long (pm_up h.2.2.1 a j.toNatClampNeg v a i) = _
  rw [pm_up_at]
  unfold updV
  by_cases z : i = j.toNatClampNeg
  · rw [if_pos z, if_pos z]
  · rw [if_neg z, if_neg z, pm_val_j hs]
theorem sim_c23 (g : pm_G) (l : Launch) : pm_c23 (pm_Sim g l) := by
  intro k N Y pc L st h Q len x a b j hi hs hK ha hj hsb hKb hb' hP p e R s m args below meth c H locs ls n0 Qw hC hR hL hn hlo hret
  obtain ⟨hd, -, hlen⟩ := pm_dec hC.2.2.2.2.2.2.2.2.2.1 hi
  have hlen := len_e hlen
  subst hlen
  have hF := hC.2.2.2.2.2.2.2.2.1
  obtain ⟨kA, comp, r1, r2, r3, r4⟩ := (hF.1.2 3 _ rfl).2
  have hcb := hR.cell hKb hb'
  unfold pm_cell at hcb
  rw [if_pos (by omega), hsb] at hcb
  obtain ⟨cv, q1, q2, q3, -⟩ := hcb
  obtain ⟨-, hfc, kC, hkC, hkind⟩ := hF.1.1 8 _ (pm_cl_get (ci := 8) (by omega))
  have hcomp : comp = (pg_D g).1 8 := Option.some.inj (r3.symm.trans hfc)
  refine W.aast (cv := cv) (k := kA) (kv := kC) (kcomp := kC) (comp := comp) (t := .object "PaperHouse$TypeLine") hC.1 hC.2.1 (hR.arr hK ha hs (by omega)) (fun q z => by cases z) (fun q => by cases q) r1 r2 rfl (by rw [hcomp]; exact hkC) ⟨fun z => hj (Or.inl z), by rw [arrV_size]; exact pm_inl hj⟩ q1 (fun q z => by rw [q3] at z; cases z) (by rw [q2]; exact hkC) (by rw [q2, hcomp]; exact va_asg _ _) rfl rfl hd (fun H' e1 e2 e3 => pm_go (h' := pm_wR h a j.toNatClampNeg (.ref b)) hC hR hL hn hlo hret hK rfl rfl rfl (fun i hi => pm_wR_o hi) e2 e3 (pm_acell (v := .ref b) hs (by omega) e1 (fun i => ?_)) hP)
  rw [pm_val_r hs]
  show pm_up h.2.2.2 a j.toNatClampNeg (.ref b) a i = _
  rw [pm_up_at]
  unfold updV
  by_cases z : i = j.toNatClampNeg
  · rw [if_pos z, if_pos z]
  · rw [if_neg z, if_neg z, pm_val_r hs]
theorem sim_c24 (g : pm_G) (l : Launch) : pm_c24 (pm_Sim g l) := by
  intro k N Y pc L st h Q len x a hi hs hK ha hP p e R s m args below meth c H locs ls n0 Qw hC hR hL hn hlo hret
  have hW := hP p e R s m args below meth c H locs ls n0 Qw hC hR hL hn hlo hret
  obtain ⟨hd, -, hlen⟩ := pm_dec hC.2.2.2.2.2.2.2.2.2.1 hi
  have hlen := len_e hlen
  subst hlen
  have hF := hC.2.2.2.2.2.2.2.2.1
  have hkd : (pm_sh a).1 = 100 ∨ (pm_sh a).1 = 101 ∨ (pm_sh a).1 = 102 ∨ (pm_sh a).1 = 103 := by omega
  rcases hkd with z | z | z | z
  · exact W.alen hC.1 hC.2.1 (hR.arr hK ha z (by omega)) (pm_ty hF (t := 0) rfl _ _) (by rw [arrV_size]) rfl rfl hd hW
  · exact W.alen hC.1 hC.2.1 (hR.arr hK ha z (by omega)) (pm_ty hF (t := 1) rfl _ _) (by rw [arrV_size]) rfl rfl hd hW
  · exact W.alen hC.1 hC.2.1 (hR.arr hK ha z (by omega)) (pm_ty hF (t := 2) rfl _ _) (by rw [arrV_size]) rfl rfl hd hW
  · exact W.alen hC.1 hC.2.1 (hR.arr hK ha z (by omega)) (pm_ty hF (t := 3) rfl _ _) (by rw [arrV_size]) rfl rfl hd hW
