def eret (Y : pm_M) (i : Instr) (st : List Value) : Option (Option Value) := match i, st with
  | .return_, [] => (match pm_rt Y with | none => some none | some _ => none)
  | .ireturn, [.int v] => (match pm_rt Y with | some .int => some (some (.int v)) | some .boolean => if v = 0 ∨ v = 1 then some (some (.int v)) else none | _ => none)
  | _, _ => none
def ecal (i : Instr) (z : Nat) (st : List Value) (h : EH) : Option (pm_M × List Value × List Value) := match pm_mz z with
  | none => none
  | some Y => match i, st.drop (pm_np Y) with
    | .invokevirtual _, .ref b :: rest => if pm_kd Y = 0 ∧ (st.take (pm_np Y)).reverse.length = pm_np Y ∧ pm_cats rest ≤ 8 ∧ (List.flatMap pm_sl1 (.ref b :: (st.take (pm_np Y)).reverse)).length ≤ pm_ml Y ∧ eob b (pm_oc Y) h = true ∧ pm_oc Y < 13 then some (Y, .ref b :: (st.take (pm_np Y)).reverse, rest) else none
    | .invokespecial _, .ref b :: rest => if pm_kd Y = 2 ∧ (st.take (pm_np Y)).reverse.length = pm_np Y ∧ pm_cats rest ≤ 8 ∧ (List.flatMap pm_sl1 (.ref b :: (st.take (pm_np Y)).reverse)).length ≤ pm_ml Y then some (Y, .ref b :: (st.take (pm_np Y)).reverse, rest) else none
    | .invokestatic _, rest => if pm_kd Y = 1 ∧ (st.take (pm_np Y)).reverse.length = pm_np Y ∧ pm_cats rest ≤ 8 ∧ (List.flatMap pm_sl1 (st.take (pm_np Y)).reverse).length ≤ pm_ml Y then some (Y, (st.take (pm_np Y)).reverse, rest) else none
    | _, _ => none
def evx : Nat → Nat → pm_M → Nat → List Value → List Value → EH → Option (Option Value × EH)
  | 0, _, _, _, _, _, _ => none
  | f + 1, d, Y, pc, L, st, h => match pm_ins Y pc with
    | none => none
    | some (i, len, t, f1, ty) => match ev1 Y i len t f1 ty pc L st h with
      | some c => evx f d Y c.1 c.2.1 c.2.2.1 c.2.2.2
      | none => match eret Y i st with
        | some r => some (r, h)
        | none => match d with
          | 0 => none
          | d + 1 => match ecal i t st h with
            | none => none
            | some (Y', As, rest) => match evx f d Y' 0 (pm_ent (pm_ml Y') As) [] h with
              | none => none
              | some (r, h') => evx f (d + 1) Y (pc + 3) L (r.toList ++ rest) h'
theorem eret_ok {k N : Nat} {Y : pm_M} {i : Instr} {len t f ty pc : Nat} {L st : List Value} {h : pm_H} {r : Option Value} {Q : Option Value → pm_H → Prop} (hi : pm_ins Y pc = some (i, len, t, f, ty)) (e : eret Y i st = some r) (hq : Q r h) : Px k N Y pc L st h Q := by
  unfold eret at e
  split at e
  · split at e
    · rename_i hr
      cases e
      exact x_rv hi hr hq
    · cases e
  · split at e
    · rename_i hr
      cases e
      exact x_ri hi (Or.inl hr) hq
    · rename_i hr
      split at e
      · rename_i hv
        cases e
        exact x_ri hi (Or.inr ⟨hr, hv⟩) hq
      · cases e
    · cases e
  · cases e
theorem ecal_ok {xs : Nat → Int32} {nn k N N' : Nat} {Y Y' : pm_M} {i : Instr} {len z f ty pc : Nat} {L st As rest : List Value} {h : EH} {Q : Option Value → pm_H → Prop} (hi : pm_ins Y pc = some (i, len, z, f, ty)) (e : ecal i z st h = some (Y', As, rest)) (hN : h.1 ≤ N') (hN' : N' ≤ N) (kk : Px k N' Y' 0 (pm_ent (pm_ml Y') As) [] (ab xs nn h) (fun r h' => h'.1 = N' ∧ Px (k + 1) N Y (pc + 3) L (r.toList ++ rest) h' Q)) : Px (k + 1) N Y pc L st (ab xs nn h) Q := by
  unfold ecal at e
  split at e
  · cases e
  · rename_i W hz
    split at e
    · rename_i idx b rs hd
      split at e
      · rename_i o
        obtain ⟨o1, o2, o3, o4, o5, o6⟩ := o
        obtain ⟨b1, b2, b3⟩ := eob_1 o5
        cases e
        refine x_cv hi hz o1 o2 o3 o4 hN hN' b1 o6 b2 b3 ?_ kk
        rw [List.reverse_reverse, ← hd, List.take_append_drop]
      · cases e
    · rename_i idx b rs hd
      split at e
      · rename_i o
        obtain ⟨o1, o2, o3, o4⟩ := o
        cases e
        refine x_ci hi hz o1 o2 o3 o4 hN hN' ?_ kk
        rw [List.reverse_reverse, ← hd, List.take_append_drop]
      · cases e
    · rename_i idx
      split at e
      · rename_i o
        obtain ⟨o1, o2, o3, o4⟩ := o
        cases e
        refine x_cs hi hz o1 o2 o3 o4 hN hN' ?_ kk
        rw [List.reverse_reverse, List.take_append_drop]
      · cases e
    · cases e
theorem evx_ok {xs : Nat → Int32} {nn : Nat} : ∀ (f d : Nat) (Y : pm_M) (pc : Nat) (L st : List Value) (h : EH) (r : Option Value) (h' : EH), evx f d Y pc L st h = some (r, h') → h.1 ≤ h'.1 ∧ ∀ N Q, h'.1 ≤ N → Q r (ab xs nn h') → Px (d + 2) N Y pc L st (ab xs nn h) Q := by
  intro f
  induction f with
  | zero => intro d Y pc L st h r h' e; cases e
  | succ f ih =>
    intro d Y pc L st h r h' e
    rw [evx] at e
    split at e
    · cases e
    · rename_i i len t f1 ty hi
      split at e
      · rename_i c hc
        obtain ⟨g1, g2⟩ := ih _ _ _ _ _ _ _ _ e
        obtain ⟨k1, k2⟩ := ev1_ok (xs := xs) (nn := nn) (k := d + 2) (by omega) hi hc
        exact ⟨Nat.le_trans k1 g1, fun N Q hN hq => k2 N Q (Nat.le_trans g1 hN) (g2 N Q hN hq)⟩
      · split at e
        · rename_i v hv
          cases e
          exact ⟨Nat.le_refl _, fun N Q hN hq => eret_ok hi hv hq⟩
        · cases d with
          | zero => cases e
          | succ d' =>
            dsimp only at e
            split at e
            · cases e
            · rename_i Y' As rest hcal
              split at e
              · cases e
              · rename_i v hm he
                obtain ⟨g1, g2⟩ := ih _ _ _ _ _ _ _ _ he
                obtain ⟨g3, g4⟩ := ih _ _ _ _ _ _ _ _ e
                refine ⟨Nat.le_trans g1 g3, fun N Q hN hq => ?_⟩
                exact ecal_ok (k := d' + 2) (N' := hm.1) hi hcal g1 (Nat.le_trans g3 hN) (g2 hm.1 (fun r h' => h'.1 = hm.1 ∧ Px (d' + 2 + 1) N Y (pc + 3) L (r.toList ++ rest) h' Q) (Nat.le_refl _) ⟨rfl, g4 N Q hN hq⟩)
