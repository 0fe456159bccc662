theorem pm_Lc.store1 {g : pm_G} {ls ls' : Array Slot} {nL : Nat} {L : List Value} {j : Nat} {v : Value} (h : pm_Lc g ls nL L) (hj : j < L.length) (hf : pm_fr L j = true) (hls : lv_has ls' nL ((j, pm_rv g v) :: (pm_prs g L).filter (fun q => !(q.1 == j) && !(q.1 + 1 == j && q.2.category == 2)))) : pm_Lc g ls' nL (L.set j v) := by
  refine ⟨by rw [List.length_set]; exact h.1, hls.1, hls.2.1, fun i w hi hw => ?_⟩
  by_cases e : i = j
  · subst e
    rw [List.getElem?_set_self hj] at hi
    cases hi
    exact hls.2.2 (i, pm_rv g v) List.mem_cons_self
  · rw [List.getElem?_set_ne (Ne.symm e)] at hi
    refine hls.2.2 (i, pm_rv g w) (List.mem_cons_of_mem _ (List.mem_filter.mpr ⟨pm_prs_mem hi hw, ?_⟩))
    by_cases e2 : i + 1 = j
    · subst e2
      have hc : w.category ≠ 2 := by
        unfold pm_fr at hf
        dsimp only at hf
        rw [hi] at hf
        cases w <;> simp_all [Value.category]
      have hc : (pm_rv g w).category ≠ 2 := by rw [pm_rv_cat]; exact hc
      simp [hc]
    · simp [e, e2]
theorem pm_Lc.store2 {g : pm_G} {ls ls' : Array Slot} {nL : Nat} {L : List Value} {j : Nat} {v : Value} (h : pm_Lc g ls nL L) (hj : j + 1 < L.length) (hf : pm_fr L j = true) (hls : lv_has ls' nL ((j, pm_rv g v) :: (pm_prs g L).filter (fun q => !(q.1 == j) && (!(q.1 == j + 1) && !(q.1 + 1 == j && q.2.category == 2))))) : pm_Lc g ls' nL ((L.set j v).set (j + 1) .null) := by
  refine ⟨by rw [List.length_set, List.length_set]; exact h.1, hls.1, hls.2.1, fun i w hi hw => ?_⟩
  by_cases e0 : i = j + 1
  · subst e0
    rw [List.getElem?_set_self (by rw [List.length_set]; exact hj)] at hi
    cases hi
    exact absurd rfl hw
  rw [List.getElem?_set_ne (Ne.symm e0)] at hi
  by_cases e : i = j
  · subst e
    rw [List.getElem?_set_self (by omega)] at hi
    cases hi
    exact hls.2.2 (i, pm_rv g v) List.mem_cons_self
  · rw [List.getElem?_set_ne (Ne.symm e)] at hi
    refine hls.2.2 (i, pm_rv g w) (List.mem_cons_of_mem _ (List.mem_filter.mpr ⟨pm_prs_mem hi hw, ?_⟩))
    by_cases e2 : i + 1 = j
    · subst e2
      have hc : w.category ≠ 2 := by
        unfold pm_fr at hf
        dsimp only at hf
        rw [hi] at hf
        cases w <;> simp_all [Value.category]
      have hc : (pm_rv g w).category ≠ 2 := by rw [pm_rv_cat]; exact hc
      simp [hc, e0]
    · simp [e, e2, e0]
theorem sim_c3 (g : pm_G) (l : Launch) : pm_c3 (pm_Sim g l) := by
  intro k N Y pc L st h Q i len x st' L' hi hs hP p e R s m args below meth c H locs ls n0 Qw hC hR hL hn hlo hret
  have hx := hC.1
  have hb := hC.2.1
  obtain ⟨hd, -, hlen⟩ := pm_dec hC.2.2.2.2.2.2.2.2.2.1 hi
  dsimp only at hd hlen
  have hLn := hL.1
  unfold pm_sto at hs
  split at hs
  · rename_i j y r
    cases hc : (pm_fr L j && Nat.blt j L.length) with
    | false => rw [hc] at hs; cases hs
    | true =>
      rw [hc] at hs
      cases hs
      simp only [Bool.and_eq_true] at hc
      have hj : j < L.length := Nat.le_of_ble_eq_true hc.2
      have hlen := len_e hlen
      subst hlen
      exact lv_istore hx hb hd hL.has (by omega) rfl (fun ls' h' => hP p e R s m args below meth c H locs ls' n0 Qw hC hR (hL.store1 (v := .int y) hj hc.1 h') hn hlo hret)
  · rename_i j y r
    cases hc : (pm_fr L j && Nat.blt j L.length) with
    | false => rw [hc] at hs; cases hs
    | true =>
      rw [hc] at hs
      cases hs
      simp only [Bool.and_eq_true] at hc
      have hj : (j : Nat) < L.length := Nat.le_of_ble_eq_true hc.2
      have hlen := len_e hlen
      subst hlen
      exact lv_istore_n hx hb hd rfl hL.has (by omega) rfl (fun ls' h' => hP p e R s m args below meth c H locs ls' n0 Qw hC hR (hL.store1 (v := .int y) hj hc.1 h') hn hlo hret)
  · rename_i j y r
    cases hc : (pm_fr L j && Nat.blt j L.length) with
    | false => rw [hc] at hs; cases hs
    | true =>
      rw [hc] at hs
      cases hs
      simp only [Bool.and_eq_true] at hc
      have hj : j < L.length := Nat.le_of_ble_eq_true hc.2
      have hlen := len_e hlen
      subst hlen
      exact lv_astore hx hb hd hL.has (by omega) rfl (fun ls' h' => hP p e R s m args below meth c H locs ls' n0 Qw hC hR (hL.store1 (v := .ref y) hj hc.1 h') hn hlo hret)
  · rename_i j y r
    cases hc : (pm_fr L j && Nat.blt j L.length) with
    | false => rw [hc] at hs; cases hs
    | true =>
      rw [hc] at hs
      cases hs
      simp only [Bool.and_eq_true] at hc
      have hj : (j : Nat) < L.length := Nat.le_of_ble_eq_true hc.2
      have hlen := len_e hlen
      subst hlen
      exact lv_astore_n hx hb hd rfl hL.has (by omega) rfl (fun ls' h' => hP p e R s m args below meth c H locs ls' n0 Qw hC hR (hL.store1 (v := .ref y) hj hc.1 h') hn hlo hret)
  · rename_i j y r
    cases hc : pm_fr2 L j with
    | false => rw [hc] at hs; cases hs
    | true =>
      rw [hc] at hs
      cases hs
      simp only [pm_fr2, Bool.and_eq_true] at hc
      have hj : j + 1 < L.length := Nat.le_of_ble_eq_true hc.2
      have hlen := len_e hlen
      subst hlen
      exact lv_lstore hx hb hd hL.has (by omega) rfl (fun ls' h' => hP p e R s m args below meth c H locs ls' n0 Qw hC hR (hL.store2 (v := .long y) hj hc.1 h') hn hlo hret)
  · rename_i j y r
    cases hc : pm_fr2 L j with
    | false => rw [hc] at hs; cases hs
    | true =>
      rw [hc] at hs
      cases hs
      simp only [pm_fr2, Bool.and_eq_true] at hc
      have hj : (j : Nat) + 1 < L.length := Nat.le_of_ble_eq_true hc.2
      have hlen := len_e hlen
      subst hlen
      exact lv_lstore_n hx hb hd rfl hL.has (by omega) rfl (fun ls' h' => hP p e R s m args below meth c H locs ls' n0 Qw hC hR (hL.store2 (v := .long y) hj hc.1 h') hn hlo hret)
  · rename_i j n
    split at hs
    · rename_i y hy
      cases hc : pm_fr L j with
      | false => rw [hc] at hs; cases hs
      | true =>
        rw [hc] at hs
        cases hs
        have hj : j < L.length := (List.getElem?_eq_some_iff.mp hy).1
        have hlen := len_e hlen
        subst hlen
        obtain ⟨q, hq⟩ := List.getElem?_of_mem (pm_prs_mem (g := g) hy (by intro z; cases z))
        exact lv_iinc hx hb hd hL.has hq rfl (by omega) rfl (fun ls' h' => hP p e R s m args below meth c H locs ls' n0 Qw hC hR (hL.store1 (v := .int (y + Int32.ofInt n)) hj hc h') hn hlo hret)
    · cases hs
  · cases hs
theorem sim_c4 (g : pm_G) (l : Launch) : pm_c4 (pm_Sim g l) := by
  intro k N Y pc L st h Q i len t x cd st' hi hs hP hP2 p e R s m args below meth c H locs ls n0 Qw hC hR hL hn hlo hret
  have hW := fun z => hP z p e R s m args below meth c H locs ls n0 Qw hC hR hL hn hlo hret
  have hW2 := fun z => hP2 z p e R s m args below meth c H locs ls n0 Qw hC hR hL hn hlo hret
  have hx := hC.1
  have hb := hC.2.1
  obtain ⟨hd, hok, hlen⟩ := pm_dec hC.2.2.2.2.2.2.2.2.2.1 hi
  dsimp only at hd hlen
  unfold pm_br at hs
  split at hs
  · cases hs; have hlen := len_e hlen; subst hlen; have ht := of_decide_eq_true hok; exact lv_if_eq hx hb hd ht hW hW2
  · cases hs; have hlen := len_e hlen; subst hlen; have ht := of_decide_eq_true hok; exact lv_if_ne hx hb hd ht hW (fun z => hW2 (fun w => w z))
  · cases hs; have hlen := len_e hlen; subst hlen; have ht := of_decide_eq_true hok; exact lv_if_lt hx hb hd ht hW hW2
  · cases hs; have hlen := len_e hlen; subst hlen; have ht := of_decide_eq_true hok; exact lv_if_ge hx hb hd ht hW hW2
  · cases hs; have hlen := len_e hlen; subst hlen; have ht := of_decide_eq_true hok; exact lv_if_gt hx hb hd ht hW hW2
  · cases hs; have hlen := len_e hlen; subst hlen; have ht := of_decide_eq_true hok; exact lv_if_le hx hb hd ht hW hW2
  · cases hs; have hlen := len_e hlen; subst hlen; have ht := of_decide_eq_true hok; exact lv_icmp_eq hx hb hd ht hW hW2
  · cases hs; have hlen := len_e hlen; subst hlen; have ht := of_decide_eq_true hok; exact lv_icmp_ne hx hb hd ht hW (fun z => hW2 (fun w => w z))
  · cases hs; have hlen := len_e hlen; subst hlen; have ht := of_decide_eq_true hok; exact lv_icmp_lt hx hb hd ht hW hW2
  · cases hs; have hlen := len_e hlen; subst hlen; have ht := of_decide_eq_true hok; exact lv_icmp_ge hx hb hd ht hW hW2
  · cases hs; have hlen := len_e hlen; subst hlen; have ht := of_decide_eq_true hok; exact lv_icmp_gt hx hb hd ht hW hW2
  · cases hs; have hlen := len_e hlen; subst hlen; have ht := of_decide_eq_true hok; exact lv_icmp_le hx hb hd ht hW hW2
  · cases hs
theorem sim_c5 (g : pm_G) (l : Launch) : pm_c5 (pm_Sim g l) := by
  intro k N Y pc L st h Q o len t x hi hP p e R s m args below meth c H locs ls n0 Qw hC hR hL hn hlo hret
  have hW := hP p e R s m args below meth c H locs ls n0 Qw hC hR hL hn hlo hret
  obtain ⟨hd, hok, hlen⟩ := pm_dec hC.2.2.2.2.2.2.2.2.2.1 hi
  dsimp only at hd hlen
  have hlen := len_e hlen
  subst hlen
  exact lv_goto hC.1 hC.2.1 hd (of_decide_eq_true hok) hW
theorem sim_c6 (g : pm_G) (l : Launch) : pm_c6 (pm_Sim g l) := by
  intro k N Y pc L st h Q d lo hi offs len x v tgt off hI h1 h2 ho ht hP p e R s m args below meth c H locs ls n0 Qw hC hR hL hn hlo hret
  have hW := hP p e R s m args below meth c H locs ls n0 Qw hC hR hL hn hlo hret
  obtain ⟨hd, hok, hlen⟩ := pm_dec hC.2.2.2.2.2.2.2.2.2.1 hI
  exact lv_tableIn hC.1 hC.2.1 hd h1 h2 ho ht hW
theorem sim_c7 (g : pm_G) (l : Launch) : pm_c7 (pm_Sim g l) := by
  intro k N Y pc L st h Q d lo hi offs len x v tgt hI h1 ht hP p e R s m args below meth c H locs ls n0 Qw hC hR hL hn hlo hret
  have hW := hP p e R s m args below meth c H locs ls n0 Qw hC hR hL hn hlo hret
  obtain ⟨hd, hok, hlen⟩ := pm_dec hC.2.2.2.2.2.2.2.2.2.1 hI
  exact lv_tableOut hC.1 hC.2.1 hd h1 ht hW
theorem sim_c8 (g : pm_G) (l : Launch) : pm_c8 (pm_Sim g l) := by
  intro k N Y pc L st h Q len x v w hi h0 hP p e R s m args below meth c H locs ls n0 Qw hC hR hL hn hlo hret
  have hW := hP p e R s m args below meth c H locs ls n0 Qw hC hR hL hn hlo hret
  obtain ⟨hd, hok, hlen⟩ := pm_dec hC.2.2.2.2.2.2.2.2.2.1 hi
  have hlen := len_e hlen
  subst hlen
  exact lv_idiv hC.1 hC.2.1 hd h0 hW
theorem sim_c9 (g : pm_G) (l : Launch) : pm_c9 (pm_Sim g l) := by
  intro k N Y pc L st h Q len x v w hi h0 hP p e R s m args below meth c H locs ls n0 Qw hC hR hL hn hlo hret
  have hW := hP p e R s m args below meth c H locs ls n0 Qw hC hR hL hn hlo hret
  obtain ⟨hd, hok, hlen⟩ := pm_dec hC.2.2.2.2.2.2.2.2.2.1 hi
  have hlen := len_e hlen
  subst hlen
  exact lv_irem hC.1 hC.2.1 hd h0 hW
theorem sim_c10 (g : pm_G) (l : Launch) : pm_c10 (pm_Sim g l) := by
  intro k N Y pc L st h Q len x v w hi h0 hP p e R s m args below meth c H locs ls n0 Qw hC hR hL hn hlo hret
  have hW := hP p e R s m args below meth c H locs ls n0 Qw hC hR hL hn hlo hret
  obtain ⟨hd, hok, hlen⟩ := pm_dec hC.2.2.2.2.2.2.2.2.2.1 hi
  have hlen := len_e hlen
  subst hlen
  exact lv_ldiv hC.1 hC.2.1 hd h0 hW
theorem sim_c11 (g : pm_G) (l : Launch) : pm_c11 (pm_Sim g l) := by
  intro k N Y pc L st h Q len x v w hi hP p e R s m args below meth c H locs ls n0 Qw hC hR hL hn hlo hret
  have hW := hP p e R s m args below meth c H locs ls n0 Qw hC hR hL hn hlo hret
  obtain ⟨hd, hok, hlen⟩ := pm_dec hC.2.2.2.2.2.2.2.2.2.1 hi
  have hlen := len_e hlen
  subst hlen
  exact W.lcmp hC.1 hC.2.1 hd hW
