/-- the claim out of the pure run of the law -/
theorem pm_whole2 (hp : ∀ P : pm_J, pm_Cl P → pm_he P → ∀ (xs : Nat → Int32) (L : Nat), L ≤ 384 → P 800 176 m_La_law 0 [.ref 0, .null, .null, .null] [] (pm_h0 xs L) (fun r h => r = some (.int 1) ∧ h.1 = 176)) {p : Program} {e : Env} {s : State} {m : MethodId} {below : List Frame} {meth : Method} {c : Code} (l : Launch) {b L : Nat} {xs : Nat → Int32} (hL : L ≤ 384) (C0 : lw_At p s m meth c b L xs) : W p l e room_1 s m #[Value.ref b] below meth c s.heap [] 0 0 (lw_Z below #[Value.ref b] s) (entryFrame m ([Value.ref b] : List Value).toArray 4) := by
  obtain ⟨g, g1, g2, g3, g4, g5, hF⟩ := pm_start hL C0
  obtain ⟨hx, hb, hr, hml, hown, hts0, hX, hbl, hlk, hgv⟩ := C0
  have hts : ∀ w ∈ pm_big, w.before #[Value.ref b] s = true := fun w hw => hts0 w (List.mem_filter.mp hw).1
  have hP := hp (pm_Sim g l) (pm_closed g l) (sim_he g l) xs L hL
  have had : pm_rv g (.ref 0) = .ref b := by
    show Value.ref (pm_ad g 0) = _
    rw [pm_ad_lo (by decide), g5]
  have hLc := pm_ent_Lc g [.ref 0] (n := 4) (Nat.le_of_ble_eq_true rfl)
  rw [show ([.ref 0] : List Value).map (pm_rv g) = [.ref b] from congrArg (fun z => [z]) had] at hLc
  rw [lg_entry_eq]
  have hR : pm_Rep g (pm_h0 xs L) s.heap := by
    refine ⟨Nat.le_refl _, by rw [g1]; rfl, fun q _ => by rw [g2], ⟨g3.symm, by rw [g4]; rfl⟩, fun i hi hi2 => ?_⟩
    have hi2 : i < 16 := hi2
    unfold pm_K at hi
    omega
  have hC : pm_Cx g m_La_law 800 176 16 p room_1 s m #[Value.ref b] meth c := ⟨hx, hb, hml, hr, hlk, hown, fun z => absurd z (by decide), hts, hF, ⟨okC_La_law, okL_La_law⟩, by decide, by decide, by decide, by decide +kernel⟩
  have hw := hP p e room_1 s m #[Value.ref b] below meth c s.heap [] _ 16 (lw_Z below #[Value.ref b] s) hC hR hLc (Nat.le_refl _) (fun q hq => by cases hq) ?_
  · exact hw
  · intro pc ls H locs r h hq hrok hR' hn' hlo
    obtain ⟨rfl, h176⟩ := hq
    rw [h176]
    rcases hrok with ⟨v, len, x, hv, hi, hrt⟩ | ⟨v, len, x, hv, hi, hrt⟩ | ⟨len, x, hv, hi, hrt⟩
    · cases hv
      obtain ⟨hd, -, hlen⟩ := pm_dec (q := (.ireturn, len, x)) ⟨okC_La_law, okL_La_law⟩ hi
      have hlen := len_e hlen
      subst hlen
      refine W.widen (k := 600000) (n := 7302250) ?_ ?_ ?_
      · decide
      · decide +kernel
      · show W p l e room_1 s m #[Value.ref b] below meth c H ([] ++ locs) 600000 7302250 (lw_Z below #[Value.ref b] s) (F0 m pc ls [.int 1])
        exact W.forget (fun q hq => by rw [← g1]; exact hlo q hq) (lw_ret hx hb hr hlk hd)
    · cases hv
    · cases hv
theorem whole_start {p : Program} {e : Env} {s : State} {m : MethodId} {below : List Frame} {meth : Method} {c : Code} (l : Launch) {b L : Nat} {xs : Nat → Int32} (hL : L ≤ 384) (C0 : lw_At p s m meth c b L xs) : W p l e room_1 s m #[Value.ref b] below meth c s.heap [] 0 0 (lw_Z below #[Value.ref b] s) (entryFrame m ([Value.ref b] : List Value).toArray 4) := pm_whole2 (law_all fun _ _ => ini_Inv) l hL C0
