theorem bk_Mo_turned_0 {k : Nat} {pa pb : Nat} {ga : Nat → Nat} {I : pm_II} {J : pm_JJ} {Q : Option Value → pm_H → Prop} (h : Px k 176 m_Mo_turned 17 [.ref 120, .int (I 120 27), .int ((I 120 18) * (I 120 19)), .int 0, .null, .null, .null, .null, .null, .null, .null, .null, .null, .null, .null, .null, .null, .null] [] (hp I J (pm_RT pa pb ga)) Q) : Px k 176 m_Mo_turned 0 [.ref 120, .null, .null, .null, .null, .null, .null, .null, .null, .null, .null, .null, .null, .null, .null, .null, .null, .null] [] (hp I J (pm_RT pa pb ga)) Q := by
  refine x_l 1 rfl rfl rfl ?_
  refine z_gf 4 (.int (I 120 27)) rfl ⟨rfl, rfl, rfl⟩ rfl rfl ?_
  refine x_t 5 rfl rfl rfl ?_
  refine x_l 6 rfl rfl rfl ?_
  refine z_gf 9 (.int (I 120 18)) rfl ⟨rfl, rfl, rfl⟩ rfl rfl ?_
  refine x_l 10 rfl rfl rfl ?_
  refine z_gf 13 (.int (I 120 19)) rfl ⟨rfl, rfl, rfl⟩ rfl rfl ?_
  refine x_s 14 rfl rfl rfl ?_
  refine x_t 15 rfl rfl rfl ?_
  refine z_k 16 0 rfl (by decide) rfl ?_
  refine x_t 17 rfl rfl rfl ?_
  exact h

theorem bk_Mo_turned_17 {k : Nat} {pa pb : Nat} {ga : Nat → Nat} {I : pm_II} {J : pm_JJ} {Q : Option Value → pm_H → Prop} {x1 : Int32} {x2 : Int32} {x3 : Int32} (h : ((x2 ≤ x3 → Q none (hp I J (pm_RT pa pb ga))) ∧ (¬ (x2 ≤ x3) → ¬ (I 120 19) = 0 ∧ ¬ (I 120 19) = 0 ∧ Px k 176 m_Mo_turned 65 [.ref 120, .int x1, .int x2, .int x3, .int (x3 / (I 120 19)), .int (x3 - x3 / (I 120 19) * (I 120 19)), .int (I 120 18), .int (I 120 19), .int 0, .int 1, .int 0, .int 0, .int 0, .null, .null, .null, .null, .null] [] (hp I J (pm_RT pa pb ga)) Q))) : Px k 176 m_Mo_turned 17 [.ref 120, .int x1, .int x2, .int x3, .null, .null, .null, .null, .null, .null, .null, .null, .null, .null, .null, .null, .null, .null] [] (hp I J (pm_RT pa pb ga)) Q := by
  refine x_l 18 rfl rfl rfl ?_
  refine x_l 19 rfl rfl rfl ?_
  refine x_b 22 rfl rfl rfl (fun c => ?_) (fun c => ?_)
  · have h := h.1 c
    exact x_rv rfl rfl h
  · have h := h.2 c
    refine x_l 23 rfl rfl rfl ?_
    refine x_l 24 rfl rfl rfl ?_
    refine z_gf 27 (.int (I 120 19)) rfl ⟨rfl, rfl, rfl⟩ rfl rfl ?_
    have h0 := h.1
    have h := h.2
    refine x_dv 28 rfl h0 rfl ?_
    refine x_t 30 rfl rfl rfl ?_
    refine x_l 31 rfl rfl rfl ?_
    refine x_l 32 rfl rfl rfl ?_
    refine z_gf 35 (.int (I 120 19)) rfl ⟨rfl, rfl, rfl⟩ rfl rfl ?_
    have h0 := h.1
    have h := h.2
    refine x_rm 36 rfl h0 rfl ?_
    refine x_t 38 rfl rfl rfl ?_
    refine x_l 39 rfl rfl rfl ?_
    refine z_gf 42 (.int (I 120 18)) rfl ⟨rfl, rfl, rfl⟩ rfl rfl ?_
    refine x_t 44 rfl rfl rfl ?_
    refine x_l 45 rfl rfl rfl ?_
    refine z_gf 48 (.int (I 120 19)) rfl ⟨rfl, rfl, rfl⟩ rfl rfl ?_
    refine x_t 50 rfl rfl rfl ?_
    refine z_k 51 0 rfl (by decide) rfl ?_
    refine x_t 53 rfl rfl rfl ?_
    refine z_k 54 1 rfl (by decide) rfl ?_
    refine x_t 56 rfl rfl rfl ?_
    refine z_k 57 0 rfl (by decide) rfl ?_
    refine x_t 59 rfl rfl rfl ?_
    refine z_k 60 0 rfl (by decide) rfl ?_
    refine x_t 62 rfl rfl rfl ?_
    refine z_k 63 0 rfl (by decide) rfl ?_
    refine x_t 65 rfl rfl rfl ?_
    exact h

theorem bk_Mo_turned_65 {k : Nat} {pa pb : Nat} {ga : Nat → Nat} {I : pm_II} {J : pm_JJ} {Q : Option Value → pm_H → Prop} {x1 : Int32} {x2 : Int32} {x3 : Int32} {x4 : Int32} {x5 : Int32} {x6 : Int32} {x7 : Int32} {x8 : Int32} {x9 : Int32} {x10 : Int32} {x11 : Int32} {x12 : Int32} (h : ((x1 ≤ x12 → ¬ (I 120 19) = 0 ∧ ¬ (I 120 19) = 0 ∧ vp_in (((8 : Int32) * (x3 / (I 120 19))) + (x3 - x3 / (I 120 19) * (I 120 19))) 64 ∧ ¬ (I 120 19) = 0 ∧ ¬ (I 120 19) = 0 ∧ vp_in (((8 : Int32) * (x3 / (I 120 19))) + (x3 - x3 / (I 120 19) * (I 120 19))) 64 ∧ (x10 = 0 ∨ x10 = 1) ∧ ¬ (I 120 19) = 0 ∧ ¬ (I 120 19) = 0 ∧ vp_in (((8 : Int32) * (x3 / (I 120 19))) + (x3 - x3 / (I 120 19) * (I 120 19))) 64 ∧ (x11 = 0 ∨ x11 = 1) ∧ Px k 176 m_Mo_turned 17 [.ref 120, .int x1, .int x2, .int (x3 + Int32.ofInt 1), .int x4, .int x5, .int x6, .int x7, .int x8, .int x9, .int x10, .int x11, .int x12, .null, .null, .null, .null, .null] [] (hp (pm_up (pm_up (pm_up I 132 (((((8 : Int32) * (x3 / (I 120 19))) + (x3 - x3 / (I 120 19) * (I 120 19))) : Int32).toNatClampNeg) x8) 133 (((((8 : Int32) * (x3 / (I 120 19))) + (x3 - x3 / (I 120 19) * (I 120 19))) : Int32).toNatClampNeg) x10) 134 (((((8 : Int32) * (x3 / (I 120 19))) + (x3 - x3 / (I 120 19) * (I 120 19))) : Int32).toNatClampNeg) x11) J (pm_RT pa pb ga)) Q) ∧ (¬ (x1 ≤ x12) → vp_in x12 6 ∧ (((I 131 ((x12 : Int32).toNatClampNeg)) = 108 → Px k 176 m_Mo_turned 99 [.ref 120, .int x1, .int x2, .int x3, .int x4, .int x5, .int x6, .int x7, .int x8, .int x9, .int x10, .int x11, .int x12, .int (I 131 ((x12 : Int32).toNatClampNeg)), .null, .null, .null, .null] [.int 1] (hp I J (pm_RT pa pb ga)) Q) ∧ (¬ ((I 131 ((x12 : Int32).toNatClampNeg)) = 108) → ((¬ (I 131 ((x12 : Int32).toNatClampNeg)) = 114 → Px k 176 m_Mo_turned 99 [.ref 120, .int x1, .int x2, .int x3, .int x4, .int x5, .int x6, .int x7, .int x8, .int x9, .int x10, .int x11, .int x12, .int (I 131 ((x12 : Int32).toNatClampNeg)), .null, .null, .null, .null] [.int 0] (hp I J (pm_RT pa pb ga)) Q) ∧ (¬ (¬ (I 131 ((x12 : Int32).toNatClampNeg)) = 114) → Px k 176 m_Mo_turned 99 [.ref 120, .int x1, .int x2, .int x3, .int x4, .int x5, .int x6, .int x7, .int x8, .int x9, .int x10, .int x11, .int x12, .int (I 131 ((x12 : Int32).toNatClampNeg)), .null, .null, .null, .null] [.int 1] (hp I J (pm_RT pa pb ga)) Q))))))) : Px k 176 m_Mo_turned 65 [.ref 120, .int x1, .int x2, .int x3, .int x4, .int x5, .int x6, .int x7, .int x8, .int x9, .int x10, .int x11, .int x12, .null, .null, .null, .null, .null] [] (hp I J (pm_RT pa pb ga)) Q := by
  refine x_l 67 rfl rfl rfl ?_
  refine x_l 68 rfl rfl rfl ?_
  refine x_b 71 rfl rfl rfl (fun c => ?_) (fun c => ?_)
  · have h := h.1 c
    refine x_l 308 rfl rfl rfl ?_
    refine z_gf 311 (.ref 132) rfl ⟨rfl, rfl, rfl⟩ rfl rfl ?_
    refine z_k 313 8 rfl (by decide) rfl ?_
    refine x_l 314 rfl rfl rfl ?_
    refine x_l 315 rfl rfl rfl ?_
    refine z_gf 318 (.int (I 120 19)) rfl ⟨rfl, rfl, rfl⟩ rfl rfl ?_
    have h0 := h.1
    have h := h.2
    refine x_dv 319 rfl h0 rfl ?_
    refine x_s 320 rfl rfl rfl ?_
    refine x_l 321 rfl rfl rfl ?_
    refine x_l 322 rfl rfl rfl ?_
    refine z_gf 325 (.int (I 120 19)) rfl ⟨rfl, rfl, rfl⟩ rfl rfl ?_
    have h0 := h.1
    have h := h.2
    refine x_rm 326 rfl h0 rfl ?_
    refine x_s 327 rfl rfl rfl ?_
    refine x_l 329 rfl rfl rfl ?_
    have h1 := h.1
    have h := h.2
    refine z_is 330 64 rfl ⟨rfl, rfl, rfl⟩ rfl h1 rfl ?_
    refine x_l 331 rfl rfl rfl ?_
    refine z_gf 334 (.ref 133) rfl ⟨rfl, rfl, rfl⟩ rfl rfl ?_
    refine z_k 336 8 rfl (by decide) rfl ?_
    refine x_l 337 rfl rfl rfl ?_
    refine x_l 338 rfl rfl rfl ?_
    refine z_gf 341 (.int (I 120 19)) rfl ⟨rfl, rfl, rfl⟩ rfl rfl ?_
    have h0 := h.1
    have h := h.2
    refine x_dv 342 rfl h0 rfl ?_
    refine x_s 343 rfl rfl rfl ?_
    refine x_l 344 rfl rfl rfl ?_
    refine x_l 345 rfl rfl rfl ?_
    refine z_gf 348 (.int (I 120 19)) rfl ⟨rfl, rfl, rfl⟩ rfl rfl ?_
    have h0 := h.1
    have h := h.2
    refine x_rm 349 rfl h0 rfl ?_
    refine x_s 350 rfl rfl rfl ?_
    refine x_l 352 rfl rfl rfl ?_
    have h1 := h.1
    have h := h.2
    have h2 := h.1
    have h := h.2
    refine z_zs 353 64 rfl ⟨rfl, rfl, rfl⟩ rfl h1 h2 rfl ?_
    refine x_l 354 rfl rfl rfl ?_
    refine z_gf 357 (.ref 134) rfl ⟨rfl, rfl, rfl⟩ rfl rfl ?_
    refine z_k 359 8 rfl (by decide) rfl ?_
    refine x_l 360 rfl rfl rfl ?_
    refine x_l 361 rfl rfl rfl ?_
    refine z_gf 364 (.int (I 120 19)) rfl ⟨rfl, rfl, rfl⟩ rfl rfl ?_
    have h0 := h.1
    have h := h.2
    refine x_dv 365 rfl h0 rfl ?_
    refine x_s 366 rfl rfl rfl ?_
    refine x_l 367 rfl rfl rfl ?_
    refine x_l 368 rfl rfl rfl ?_
    refine z_gf 371 (.int (I 120 19)) rfl ⟨rfl, rfl, rfl⟩ rfl rfl ?_
    have h0 := h.1
    have h := h.2
    refine x_rm 372 rfl h0 rfl ?_
    refine x_s 373 rfl rfl rfl ?_
    refine x_l 375 rfl rfl rfl ?_
    have h1 := h.1
    have h := h.2
    have h2 := h.1
    have h := h.2
    refine z_zs 376 64 rfl ⟨rfl, rfl, rfl⟩ rfl h1 h2 rfl ?_
    refine x_t 379 rfl rfl rfl ?_
    refine x_g rfl ?_
    exact h
  · have h := h.2 c
    refine x_l 72 rfl rfl rfl ?_
    refine z_gf 75 (.ref 131) rfl ⟨rfl, rfl, rfl⟩ rfl rfl ?_
    refine x_l 77 rfl rfl rfl ?_
    have h1 := h.1
    have h := h.2
    refine z_il 78 6 rfl ⟨rfl, rfl, rfl⟩ rfl h1 rfl ?_
    refine x_t 80 rfl rfl rfl ?_
    refine x_l 82 rfl rfl rfl ?_
    refine z_k 84 108 rfl (by decide) rfl ?_
    refine x_b 87 rfl rfl rfl (fun c => ?_) (fun c => ?_)
    · have h := h.1 c
      refine z_k 95 1 rfl (by decide) rfl ?_
      refine x_g rfl ?_
      exact h
    · have h := h.2 c
      refine x_l 89 rfl rfl rfl ?_
      refine z_k 91 114 rfl (by decide) rfl ?_
      refine x_b 94 rfl rfl rfl (fun c => ?_) (fun c => ?_)
      · have h := h.1 c
        refine z_k 99 0 rfl (by decide) rfl ?_
        exact h
      · have h := h.2 c
        refine z_k 95 1 rfl (by decide) rfl ?_
        refine x_g rfl ?_
        exact h

theorem bk_Mo_turned_99 {k : Nat} {pa pb : Nat} {ga : Nat → Nat} {I : pm_II} {J : pm_JJ} {Q : Option Value → pm_H → Prop} {x1 : Int32} {x2 : Int32} {x3 : Int32} {x4 : Int32} {x5 : Int32} {x6 : Int32} {x7 : Int32} {x8 : Int32} {x9 : Int32} {x10 : Int32} {x11 : Int32} {x12 : Int32} {x13 : Int32} {s0 : Int32} (h : ((s0 = 0 → Px k 176 m_Mo_turned 117 [.ref 120, .int x1, .int x2, .int x3, .int x4, .int x5, .int x6, .int x7, .int x8, .int x9, .int x10, .int x11, .int x12, .int x13, .int s0, .null, .null, .null] [.int (x6 / 2)] (hp I J (pm_RT pa pb ga)) Q) ∧ (¬ (s0 = 0) → Px k 176 m_Mo_turned 117 [.ref 120, .int x1, .int x2, .int x3, .int x4, .int x5, .int x6, .int x7, .int x8, .int x9, .int x10, .int x11, .int x12, .int x13, .int s0, .null, .null, .null] [.int (x7 / 2)] (hp I J (pm_RT pa pb ga)) Q))) : Px k 176 m_Mo_turned 99 [.ref 120, .int x1, .int x2, .int x3, .int x4, .int x5, .int x6, .int x7, .int x8, .int x9, .int x10, .int x11, .int x12, .int x13, .null, .null, .null, .null] [.int s0] (hp I J (pm_RT pa pb ga)) Q := by
  refine x_t 101 rfl rfl rfl ?_
  refine x_l 103 rfl rfl rfl ?_
  refine x_b 106 rfl rfl rfl (fun c => ?_) (fun c => ?_)
  · have h := h.1 c
    refine x_l 115 rfl rfl rfl ?_
    refine z_k 116 2 rfl (by decide) rfl ?_
    refine x_dv 117 rfl (by decide) rfl ?_
    exact h
  · have h := h.2 c
    refine x_l 108 rfl rfl rfl ?_
    refine z_k 109 2 rfl (by decide) rfl ?_
    refine x_dv 110 rfl (by decide) rfl ?_
    refine x_g rfl ?_
    exact h

theorem bk_Mo_turned_117 {k : Nat} {pa pb : Nat} {ga : Nat → Nat} {I : pm_II} {J : pm_JJ} {Q : Option Value → pm_H → Prop} {x1 : Int32} {x2 : Int32} {x3 : Int32} {x4 : Int32} {x5 : Int32} {x6 : Int32} {x7 : Int32} {x8 : Int32} {x9 : Int32} {x10 : Int32} {x11 : Int32} {x12 : Int32} {x13 : Int32} {x14 : Int32} {s0 : Int32} (h : ((x14 = 0 → Px k 176 m_Mo_turned 131 [.ref 120, .int x1, .int x2, .int x3, .int x4, .int x5, .int x6, .int x7, .int x8, .int x9, .int x10, .int x11, .int x12, .int x13, .int x14, .int s0, .null, .null] [.int x4] (hp I J (pm_RT pa pb ga)) Q) ∧ (¬ (x14 = 0) → Px k 176 m_Mo_turned 131 [.ref 120, .int x1, .int x2, .int x3, .int x4, .int x5, .int x6, .int x7, .int x8, .int x9, .int x10, .int x11, .int x12, .int x13, .int x14, .int s0, .null, .null] [.int x5] (hp I J (pm_RT pa pb ga)) Q))) : Px k 176 m_Mo_turned 117 [.ref 120, .int x1, .int x2, .int x3, .int x4, .int x5, .int x6, .int x7, .int x8, .int x9, .int x10, .int x11, .int x12, .int x13, .int x14, .null, .null, .null] [.int s0] (hp I J (pm_RT pa pb ga)) Q := by
  refine x_t 119 rfl rfl rfl ?_
  refine x_l 121 rfl rfl rfl ?_
  refine x_b 124 rfl rfl rfl (fun c => ?_) (fun c => ?_)
  · have h := h.1 c
    refine x_l 131 rfl rfl rfl ?_
    exact h
  · have h := h.2 c
    refine x_l 126 rfl rfl rfl ?_
    refine x_g rfl ?_
    exact h

theorem bk_Mo_turned_131 {k : Nat} {pa pb : Nat} {ga : Nat → Nat} {I : pm_II} {J : pm_JJ} {Q : Option Value → pm_H → Prop} {x1 : Int32} {x2 : Int32} {x3 : Int32} {x4 : Int32} {x5 : Int32} {x6 : Int32} {x7 : Int32} {x8 : Int32} {x9 : Int32} {x10 : Int32} {x11 : Int32} {x12 : Int32} {x13 : Int32} {x14 : Int32} {x15 : Int32} {s0 : Int32} (h : ((x13 = 108 → Px k 176 m_Mo_turned 147 [.ref 120, .int x1, .int x2, .int x3, .int x4, .int x5, .int x6, .int x7, .int x8, .int x9, .int x10, .int x11, .int x12, .int x13, .int x14, .int x15, .int s0, .null] [] (hp I J (pm_RT pa pb ga)) Q) ∧ (¬ (x13 = 108) → ((¬ x13 = 116 → ((s0 < x15 → Px k 176 m_Mo_turned 174 [.ref 120, .int x1, .int x2, .int x3, .int x4, .int x5, .int x6, .int x7, .int x8, .int x9, .int x10, .int x11, .int x12, .int x13, .int x14, .int x15, .int s0, .null] [.int 0] (hp I J (pm_RT pa pb ga)) Q) ∧ (¬ (s0 < x15) → Px k 176 m_Mo_turned 174 [.ref 120, .int x1, .int x2, .int x3, .int x4, .int x5, .int x6, .int x7, .int x8, .int x9, .int x10, .int x11, .int x12, .int x13, .int x14, .int x15, .int s0, .null] [.int 1] (hp I J (pm_RT pa pb ga)) Q))) ∧ (¬ (¬ x13 = 116) → Px k 176 m_Mo_turned 147 [.ref 120, .int x1, .int x2, .int x3, .int x4, .int x5, .int x6, .int x7, .int x8, .int x9, .int x10, .int x11, .int x12, .int x13, .int x14, .int x15, .int s0, .null] [] (hp I J (pm_RT pa pb ga)) Q))))) : Px k 176 m_Mo_turned 131 [.ref 120, .int x1, .int x2, .int x3, .int x4, .int x5, .int x6, .int x7, .int x8, .int x9, .int x10, .int x11, .int x12, .int x13, .int x14, .int x15, .null, .null] [.int s0] (hp I J (pm_RT pa pb ga)) Q := by
  refine x_t 133 rfl rfl rfl ?_
  refine x_l 135 rfl rfl rfl ?_
  refine z_k 137 108 rfl (by decide) rfl ?_
  refine x_b 140 rfl rfl rfl (fun c => ?_) (fun c => ?_)
  · have h := h.1 c
    exact h
  · have h := h.2 c
    refine x_l 142 rfl rfl rfl ?_
    refine z_k 144 116 rfl (by decide) rfl ?_
    refine x_b 147 rfl rfl rfl (fun c => ?_) (fun c => ?_)
    · have h := h.1 c
      refine x_l 164 rfl rfl rfl ?_
      refine x_l 166 rfl rfl rfl ?_
      refine x_b 169 rfl rfl rfl (fun c => ?_) (fun c => ?_)
      · have h := h.1 c
        refine z_k 174 0 rfl (by decide) rfl ?_
        exact h
      · have h := h.2 c
        refine z_k 170 1 rfl (by decide) rfl ?_
        refine x_g rfl ?_
        exact h
    · have h := h.2 c
      exact h

theorem bk_Mo_turned_147 {k : Nat} {pa pb : Nat} {ga : Nat → Nat} {I : pm_II} {J : pm_JJ} {Q : Option Value → pm_H → Prop} {x1 : Int32} {x2 : Int32} {x3 : Int32} {x4 : Int32} {x5 : Int32} {x6 : Int32} {x7 : Int32} {x8 : Int32} {x9 : Int32} {x10 : Int32} {x11 : Int32} {x12 : Int32} {x13 : Int32} {x14 : Int32} {x15 : Int32} {x16 : Int32} (h : ((x15 ≤ x16 → Px k 176 m_Mo_turned 174 [.ref 120, .int x1, .int x2, .int x3, .int x4, .int x5, .int x6, .int x7, .int x8, .int x9, .int x10, .int x11, .int x12, .int x13, .int x14, .int x15, .int x16, .null] [.int 0] (hp I J (pm_RT pa pb ga)) Q) ∧ (¬ (x15 ≤ x16) → Px k 176 m_Mo_turned 174 [.ref 120, .int x1, .int x2, .int x3, .int x4, .int x5, .int x6, .int x7, .int x8, .int x9, .int x10, .int x11, .int x12, .int x13, .int x14, .int x15, .int x16, .null] [.int 1] (hp I J (pm_RT pa pb ga)) Q))) : Px k 176 m_Mo_turned 147 [.ref 120, .int x1, .int x2, .int x3, .int x4, .int x5, .int x6, .int x7, .int x8, .int x9, .int x10, .int x11, .int x12, .int x13, .int x14, .int x15, .int x16, .null] [] (hp I J (pm_RT pa pb ga)) Q := by
  refine x_l 149 rfl rfl rfl ?_
  refine x_l 151 rfl rfl rfl ?_
  refine x_b 154 rfl rfl rfl (fun c => ?_) (fun c => ?_)
  · have h := h.1 c
    refine z_k 159 0 rfl (by decide) rfl ?_
    refine x_g rfl ?_
    exact h
  · have h := h.2 c
    refine z_k 155 1 rfl (by decide) rfl ?_
    refine x_g rfl ?_
    exact h

theorem bk_Mo_turned_174 {k : Nat} {pa pb : Nat} {ga : Nat → Nat} {I : pm_II} {J : pm_JJ} {Q : Option Value → pm_H → Prop} {x1 : Int32} {x2 : Int32} {x3 : Int32} {x4 : Int32} {x5 : Int32} {x6 : Int32} {x7 : Int32} {x8 : Int32} {x9 : Int32} {x10 : Int32} {x11 : Int32} {x12 : Int32} {x13 : Int32} {x14 : Int32} {x15 : Int32} {x16 : Int32} {s0 : Int32} (h : ((s0 = 0 → Px k 176 m_Mo_turned 245 [.ref 120, .int x1, .int x2, .int x3, .int x4, .int x5, .int x6, .int x7, .int (x8 + x9), .int x9, .int x10, .int x11, .int x12, .int x13, .int x14, .int x15, .int x16, .int s0] [] (hp I J (pm_RT pa pb ga)) Q) ∧ (¬ (s0 = 0) → ((¬ x10 = 0 → Px k 176 m_Mo_turned 211 [.ref 120, .int x1, .int x2, .int x3, .int x4, .int x5, .int x6, .int x7, .int ((x9 - (1 : Int32)) - x8), .int x9, .int x10, .int x11, .int x12, .int x13, .int x14, .int x15, .int ((((2 : Int32) * x15) - (1 : Int32)) - x16), .int s0] [.int 0] (hp I J (pm_RT pa pb ga)) Q) ∧ (¬ (¬ x10 = 0) → Px k 176 m_Mo_turned 211 [.ref 120, .int x1, .int x2, .int x3, .int x4, .int x5, .int x6, .int x7, .int ((x9 - (1 : Int32)) - x8), .int x9, .int x10, .int x11, .int x12, .int x13, .int x14, .int x15, .int ((((2 : Int32) * x15) - (1 : Int32)) - x16), .int s0] [.int 1] (hp I J (pm_RT pa pb ga)) Q))))) : Px k 176 m_Mo_turned 174 [.ref 120, .int x1, .int x2, .int x3, .int x4, .int x5, .int x6, .int x7, .int x8, .int x9, .int x10, .int x11, .int x12, .int x13, .int x14, .int x15, .int x16, .null] [.int s0] (hp I J (pm_RT pa pb ga)) Q := by
  refine x_t 176 rfl rfl rfl ?_
  refine x_l 178 rfl rfl rfl ?_
  refine x_b 181 rfl rfl rfl (fun c => ?_) (fun c => ?_)
  · have h := h.1 c
    refine x_l 240 rfl rfl rfl ?_
    refine x_l 242 rfl rfl rfl ?_
    refine x_s 243 rfl rfl rfl ?_
    refine x_t 245 rfl rfl rfl ?_
    exact h
  · have h := h.2 c
    refine z_k 182 2 rfl (by decide) rfl ?_
    refine x_l 184 rfl rfl rfl ?_
    refine x_s 185 rfl rfl rfl ?_
    refine z_k 186 1 rfl (by decide) rfl ?_
    refine x_s 187 rfl rfl rfl ?_
    refine x_l 189 rfl rfl rfl ?_
    refine x_s 190 rfl rfl rfl ?_
    refine x_t 192 rfl rfl rfl ?_
    refine x_l 194 rfl rfl rfl ?_
    refine z_k 195 1 rfl (by decide) rfl ?_
    refine x_s 196 rfl rfl rfl ?_
    refine x_l 198 rfl rfl rfl ?_
    refine x_s 199 rfl rfl rfl ?_
    refine x_t 201 rfl rfl rfl ?_
    refine x_l 203 rfl rfl rfl ?_
    refine x_b 206 rfl rfl rfl (fun c => ?_) (fun c => ?_)
    · have h := h.1 c
      refine z_k 211 0 rfl (by decide) rfl ?_
      exact h
    · have h := h.2 c
      refine z_k 207 1 rfl (by decide) rfl ?_
      refine x_g rfl ?_
      exact h

theorem bk_Mo_turned_211 {k : Nat} {pa pb : Nat} {ga : Nat → Nat} {I : pm_II} {J : pm_JJ} {Q : Option Value → pm_H → Prop} {x1 : Int32} {x2 : Int32} {x3 : Int32} {x4 : Int32} {x5 : Int32} {x6 : Int32} {x7 : Int32} {x8 : Int32} {x9 : Int32} {x10 : Int32} {x11 : Int32} {x12 : Int32} {x13 : Int32} {x14 : Int32} {x15 : Int32} {x16 : Int32} {x17 : Int32} {s0 : Int32} (h : ((¬ x14 = 0 → Px k 176 m_Mo_turned 225 [.ref 120, .int x1, .int x2, .int x3, .int x4, .int x5, .int x6, .int x7, .int x8, .int x9, .int s0, .int x11, .int x12, .int x13, .int x14, .int x15, .int x16, .int x17] [.int 0, .int x11] (hp I J (pm_RT pa pb ga)) Q) ∧ (¬ (¬ x14 = 0) → Px k 176 m_Mo_turned 225 [.ref 120, .int x1, .int x2, .int x3, .int x4, .int x5, .int x6, .int x7, .int x8, .int x9, .int s0, .int x11, .int x12, .int x13, .int x14, .int x15, .int x16, .int x17] [.int 1, .int x11] (hp I J (pm_RT pa pb ga)) Q))) : Px k 176 m_Mo_turned 211 [.ref 120, .int x1, .int x2, .int x3, .int x4, .int x5, .int x6, .int x7, .int x8, .int x9, .int x10, .int x11, .int x12, .int x13, .int x14, .int x15, .int x16, .int x17] [.int s0] (hp I J (pm_RT pa pb ga)) Q := by
  refine x_t 213 rfl rfl rfl ?_
  refine x_l 215 rfl rfl rfl ?_
  refine x_l 217 rfl rfl rfl ?_
  refine x_b 220 rfl rfl rfl (fun c => ?_) (fun c => ?_)
  · have h := h.1 c
    refine z_k 225 0 rfl (by decide) rfl ?_
    exact h
  · have h := h.2 c
    refine z_k 221 1 rfl (by decide) rfl ?_
    refine x_g rfl ?_
    exact h

theorem bk_Mo_turned_225 {k : Nat} {pa pb : Nat} {ga : Nat → Nat} {I : pm_II} {J : pm_JJ} {Q : Option Value → pm_H → Prop} {x1 : Int32} {x2 : Int32} {x3 : Int32} {x4 : Int32} {x5 : Int32} {x6 : Int32} {x7 : Int32} {x8 : Int32} {x9 : Int32} {x10 : Int32} {x11 : Int32} {x12 : Int32} {x13 : Int32} {x14 : Int32} {x15 : Int32} {x16 : Int32} {x17 : Int32} {s0 : Int32} {s1 : Int32} (h : ((s0 = s1 → Px k 176 m_Mo_turned 245 [.ref 120, .int x1, .int x2, .int x3, .int x4, .int x5, .int x6, .int x7, .int x8, .int x9, .int x10, .int 0, .int x12, .int x13, .int x14, .int x15, .int x16, .int x17] [] (hp I J (pm_RT pa pb ga)) Q) ∧ (¬ (s0 = s1) → Px k 176 m_Mo_turned 245 [.ref 120, .int x1, .int x2, .int x3, .int x4, .int x5, .int x6, .int x7, .int x8, .int x9, .int x10, .int 1, .int x12, .int x13, .int x14, .int x15, .int x16, .int x17] [] (hp I J (pm_RT pa pb ga)) Q))) : Px k 176 m_Mo_turned 225 [.ref 120, .int x1, .int x2, .int x3, .int x4, .int x5, .int x6, .int x7, .int x8, .int x9, .int x10, .int x11, .int x12, .int x13, .int x14, .int x15, .int x16, .int x17] [.int s1, .int s0] (hp I J (pm_RT pa pb ga)) Q := by
  refine x_b 228 rfl rfl rfl (fun c => ?_) (fun c => ?_)
  · have h := h.1 c
    refine z_k 233 0 rfl (by decide) rfl ?_
    refine x_t 235 rfl rfl rfl ?_
    refine x_g rfl ?_
    exact h
  · have h := h.2 c
    refine z_k 229 1 rfl (by decide) rfl ?_
    refine x_g rfl ?_
    refine x_t 235 rfl rfl rfl ?_
    refine x_g rfl ?_
    exact h

theorem bk_Mo_turned_245 {k : Nat} {pa pb : Nat} {ga : Nat → Nat} {I : pm_II} {J : pm_JJ} {Q : Option Value → pm_H → Prop} {x1 : Int32} {x2 : Int32} {x3 : Int32} {x4 : Int32} {x5 : Int32} {x6 : Int32} {x7 : Int32} {x8 : Int32} {x9 : Int32} {x10 : Int32} {x11 : Int32} {x12 : Int32} {x13 : Int32} {x14 : Int32} {x15 : Int32} {x16 : Int32} {x17 : Int32} (h : ((x13 = 108 → Px k 176 m_Mo_turned 269 [.ref 120, .int x1, .int x2, .int x3, .int x4, .int x5, .int x6, .int x7, .int x8, .int x9, .int x10, .int x11, .int x12, .int x13, .int x14, .int x15, .int x16, .int x17] [.int (x16 - x15)] (hp I J (pm_RT pa pb ga)) Q) ∧ (¬ (x13 = 108) → ((¬ x13 = 116 → Px k 176 m_Mo_turned 269 [.ref 120, .int x1, .int x2, .int x3, .int x4, .int x5, .int x6, .int x7, .int x8, .int x9, .int x10, .int x11, .int x12, .int x13, .int x14, .int x15, .int x16, .int x17] [.int x16] (hp I J (pm_RT pa pb ga)) Q) ∧ (¬ (¬ x13 = 116) → Px k 176 m_Mo_turned 269 [.ref 120, .int x1, .int x2, .int x3, .int x4, .int x5, .int x6, .int x7, .int x8, .int x9, .int x10, .int x11, .int x12, .int x13, .int x14, .int x15, .int x16, .int x17] [.int (x16 - x15)] (hp I J (pm_RT pa pb ga)) Q))))) : Px k 176 m_Mo_turned 245 [.ref 120, .int x1, .int x2, .int x3, .int x4, .int x5, .int x6, .int x7, .int x8, .int x9, .int x10, .int x11, .int x12, .int x13, .int x14, .int x15, .int x16, .int x17] [] (hp I J (pm_RT pa pb ga)) Q := by
  refine x_l 247 rfl rfl rfl ?_
  refine z_k 249 108 rfl (by decide) rfl ?_
  refine x_b 252 rfl rfl rfl (fun c => ?_) (fun c => ?_)
  · have h := h.1 c
    refine x_l 261 rfl rfl rfl ?_
    refine x_l 263 rfl rfl rfl ?_
    refine x_s 264 rfl rfl rfl ?_
    refine x_g rfl ?_
    exact h
  · have h := h.2 c
    refine x_l 254 rfl rfl rfl ?_
    refine z_k 256 116 rfl (by decide) rfl ?_
    refine x_b 259 rfl rfl rfl (fun c => ?_) (fun c => ?_)
    · have h := h.1 c
      refine x_l 269 rfl rfl rfl ?_
      exact h
    · have h := h.2 c
      refine x_l 261 rfl rfl rfl ?_
      refine x_l 263 rfl rfl rfl ?_
      refine x_s 264 rfl rfl rfl ?_
      refine x_g rfl ?_
      exact h

theorem bk_Mo_turned_269 {k : Nat} {pa pb : Nat} {ga : Nat → Nat} {I : pm_II} {J : pm_JJ} {Q : Option Value → pm_H → Prop} {x1 : Int32} {x2 : Int32} {x3 : Int32} {x4 : Int32} {x5 : Int32} {x6 : Int32} {x7 : Int32} {x8 : Int32} {x9 : Int32} {x10 : Int32} {x11 : Int32} {x12 : Int32} {x13 : Int32} {x14 : Int32} {x15 : Int32} {x16 : Int32} {x17 : Int32} {s0 : Int32} (h : ((x14 = 0 → Px k 176 m_Mo_turned 65 [.ref 120, .int x1, .int x2, .int x3, .int s0, .int x5, .int x15, .int x7, .int x8, .int (x9 * (2 : Int32)), .int x10, .int x11, .int (x12 + Int32.ofInt 1), .int x13, .int x14, .int x15, .int s0, .int x17] [] (hp I J (pm_RT pa pb ga)) Q) ∧ (¬ (x14 = 0) → Px k 176 m_Mo_turned 65 [.ref 120, .int x1, .int x2, .int x3, .int x4, .int s0, .int x6, .int x15, .int x8, .int (x9 * (2 : Int32)), .int x10, .int x11, .int (x12 + Int32.ofInt 1), .int x13, .int x14, .int x15, .int s0, .int x17] [] (hp I J (pm_RT pa pb ga)) Q))) : Px k 176 m_Mo_turned 269 [.ref 120, .int x1, .int x2, .int x3, .int x4, .int x5, .int x6, .int x7, .int x8, .int x9, .int x10, .int x11, .int x12, .int x13, .int x14, .int x15, .int x16, .int x17] [.int s0] (hp I J (pm_RT pa pb ga)) Q := by
  refine x_t 271 rfl rfl rfl ?_
  refine x_l 273 rfl rfl rfl ?_
  refine z_k 274 2 rfl (by decide) rfl ?_
  refine x_s 275 rfl rfl rfl ?_
  refine x_t 277 rfl rfl rfl ?_
  refine x_l 279 rfl rfl rfl ?_
  refine x_b 282 rfl rfl rfl (fun c => ?_) (fun c => ?_)
  · have h := h.1 c
    refine x_l 295 rfl rfl rfl ?_
    refine x_t 297 rfl rfl rfl ?_
    refine x_l 299 rfl rfl rfl ?_
    refine x_t 301 rfl rfl rfl ?_
    refine x_t 304 rfl rfl rfl ?_
    refine x_g rfl ?_
    exact h
  · have h := h.2 c
    refine x_l 284 rfl rfl rfl ?_
    refine x_t 286 rfl rfl rfl ?_
    refine x_l 288 rfl rfl rfl ?_
    refine x_t 290 rfl rfl rfl ?_
    refine x_g rfl ?_
    refine x_t 304 rfl rfl rfl ?_
    refine x_g rfl ?_
    exact h

theorem bk_Mo_feed_0 {k : Nat} {pa pb : Nat} {ga : Nat → Nat} {I : pm_II} {J : pm_JJ} {Q : Option Value → pm_H → Prop} {x1 : Int32} {x2 : Int32} {x3 : Int32} {x4 : Int32} {x5 : Int32} (h : ((((I 120 2) + (20 : Int32)) ≤ 1600 → Px k 176 m_Mo_four 0 [.ref 120, .int x1, .null] [] (hp I J (pm_RT pa pb ga)) (fun r h' => h'.1 = 176 ∧ Px (k + 1) 176 m_Mo_feed 21 [.ref 120, .int x1, .int x2, .int x3, .int x4, .int x5] (r.toList ++ []) h' Q)) ∧ (¬ (((I 120 2) + (20 : Int32)) ≤ 1600) → Q (some (.int (-4))) (hp I J (pm_RT pa pb ga))))) : Px (k + 1) 176 m_Mo_feed 0 [.ref 120, .int x1, .int x2, .int x3, .int x4, .int x5] [] (hp I J (pm_RT pa pb ga)) Q := by
  refine x_l 1 rfl rfl rfl ?_
  refine z_gf 4 (.int (I 120 2)) rfl ⟨rfl, rfl, rfl⟩ rfl rfl ?_
  refine z_k 6 20 rfl (by decide) rfl ?_
  refine x_s 7 rfl rfl rfl ?_
  refine z_k 10 1600 rfl (by decide) rfl ?_
  refine x_b 13 rfl rfl rfl (fun c => ?_) (fun c => ?_)
  · have h := h.1 c
    refine x_l 17 rfl rfl rfl ?_
    refine x_l 18 rfl rfl rfl ?_
    exact z_cv (As := [.int x1]) (rest := []) (b := 120) rfl at_Mo_four rfl rfl (Nat.le_of_ble_eq_true rfl) (Nat.le_of_ble_eq_true rfl) ⟨rfl, rfl, rfl⟩ (by decide) rfl h
  · have h := h.2 c
    refine z_k 15 (-4) rfl (by decide) rfl ?_
    exact x_ri rfl (Or.inl rfl) h

theorem bk_Mo_feed_21 {k : Nat} {pa pb : Nat} {ga : Nat → Nat} {I : pm_II} {J : pm_JJ} {Q : Option Value → pm_H → Prop} {x1 : Int32} {x2 : Int32} {x3 : Int32} {x4 : Int32} {x5 : Int32} (h : Px k 176 m_Mo_four 0 [.ref 120, .int x2, .null] [] (hp I J (pm_RT pa pb ga)) (fun r h' => h'.1 = 176 ∧ Px (k + 1) 176 m_Mo_feed 26 [.ref 120, .int x1, .int x2, .int x3, .int x4, .int x5] (r.toList ++ []) h' Q)) : Px (k + 1) 176 m_Mo_feed 21 [.ref 120, .int x1, .int x2, .int x3, .int x4, .int x5] [] (hp I J (pm_RT pa pb ga)) Q := by
  refine x_l 22 rfl rfl rfl ?_
  refine x_l 23 rfl rfl rfl ?_
  exact z_cv (As := [.int x2]) (rest := []) (b := 120) rfl at_Mo_four rfl rfl (Nat.le_of_ble_eq_true rfl) (Nat.le_of_ble_eq_true rfl) ⟨rfl, rfl, rfl⟩ (by decide) rfl h

theorem bk_Mo_feed_26 {k : Nat} {pa pb : Nat} {ga : Nat → Nat} {I : pm_II} {J : pm_JJ} {Q : Option Value → pm_H → Prop} {x1 : Int32} {x2 : Int32} {x3 : Int32} {x4 : Int32} {x5 : Int32} (h : Px k 176 m_Mo_four 0 [.ref 120, .int x3, .null] [] (hp I J (pm_RT pa pb ga)) (fun r h' => h'.1 = 176 ∧ Px (k + 1) 176 m_Mo_feed 31 [.ref 120, .int x1, .int x2, .int x3, .int x4, .int x5] (r.toList ++ []) h' Q)) : Px (k + 1) 176 m_Mo_feed 26 [.ref 120, .int x1, .int x2, .int x3, .int x4, .int x5] [] (hp I J (pm_RT pa pb ga)) Q := by
  refine x_l 27 rfl rfl rfl ?_
  refine x_l 28 rfl rfl rfl ?_
  exact z_cv (As := [.int x3]) (rest := []) (b := 120) rfl at_Mo_four rfl rfl (Nat.le_of_ble_eq_true rfl) (Nat.le_of_ble_eq_true rfl) ⟨rfl, rfl, rfl⟩ (by decide) rfl h

theorem bk_Mo_feed_31 {k : Nat} {pa pb : Nat} {ga : Nat → Nat} {I : pm_II} {J : pm_JJ} {Q : Option Value → pm_H → Prop} {x1 : Int32} {x2 : Int32} {x3 : Int32} {x4 : Int32} {x5 : Int32} (h : Px k 176 m_Mo_four 0 [.ref 120, .int x4, .null] [] (hp I J (pm_RT pa pb ga)) (fun r h' => h'.1 = 176 ∧ Px (k + 1) 176 m_Mo_feed 37 [.ref 120, .int x1, .int x2, .int x3, .int x4, .int x5] (r.toList ++ []) h' Q)) : Px (k + 1) 176 m_Mo_feed 31 [.ref 120, .int x1, .int x2, .int x3, .int x4, .int x5] [] (hp I J (pm_RT pa pb ga)) Q := by
  refine x_l 32 rfl rfl rfl ?_
  refine x_l 34 rfl rfl rfl ?_
  exact z_cv (As := [.int x4]) (rest := []) (b := 120) rfl at_Mo_four rfl rfl (Nat.le_of_ble_eq_true rfl) (Nat.le_of_ble_eq_true rfl) ⟨rfl, rfl, rfl⟩ (by decide) rfl h

theorem bk_Mo_feed_37 {k : Nat} {pa pb : Nat} {ga : Nat → Nat} {I : pm_II} {J : pm_JJ} {Q : Option Value → pm_H → Prop} {x1 : Int32} {x2 : Int32} {x3 : Int32} {x4 : Int32} {x5 : Int32} (h : Px k 176 m_Mo_four 0 [.ref 120, .int x5, .null] [] (hp I J (pm_RT pa pb ga)) (fun r h' => h'.1 = 176 ∧ Px (k + 1) 176 m_Mo_feed 43 [.ref 120, .int x1, .int x2, .int x3, .int x4, .int x5] (r.toList ++ []) h' Q)) : Px (k + 1) 176 m_Mo_feed 37 [.ref 120, .int x1, .int x2, .int x3, .int x4, .int x5] [] (hp I J (pm_RT pa pb ga)) Q := by
  refine x_l 38 rfl rfl rfl ?_
  refine x_l 40 rfl rfl rfl ?_
  exact z_cv (As := [.int x5]) (rest := []) (b := 120) rfl at_Mo_four rfl rfl (Nat.le_of_ble_eq_true rfl) (Nat.le_of_ble_eq_true rfl) ⟨rfl, rfl, rfl⟩ (by decide) rfl h

theorem bk_Mo_feed_43 {k : Nat} {pa pb : Nat} {ga : Nat → Nat} {I : pm_II} {J : pm_JJ} {Q : Option Value → pm_H → Prop} {x1 : Int32} {x2 : Int32} {x3 : Int32} {x4 : Int32} {x5 : Int32} (h : Q (some (.int (I 120 2))) (hp I J (pm_RT pa pb ga))) : Px (k + 1) 176 m_Mo_feed 43 [.ref 120, .int x1, .int x2, .int x3, .int x4, .int x5] [] (hp I J (pm_RT pa pb ga)) Q := by
  refine x_l 44 rfl rfl rfl ?_
  refine z_gf 47 (.int (I 120 2)) rfl ⟨rfl, rfl, rfl⟩ rfl rfl ?_
  exact x_ri rfl (Or.inl rfl) h

theorem bk_Mo_four_0 {k : Nat} {pa pb : Nat} {ga : Nat → Nat} {I : pm_II} {J : pm_JJ} {Q : Option Value → pm_H → Prop} {x1 : Int32} (h : Px k 176 m_Mo_four 3 [.ref 120, .int x1, .int 24] [] (hp I J (pm_RT pa pb ga)) Q) : Px k 176 m_Mo_four 0 [.ref 120, .int x1, .null] [] (hp I J (pm_RT pa pb ga)) Q := by
  refine z_k 2 24 rfl (by decide) rfl ?_
  refine x_t 3 rfl rfl rfl ?_
  exact h

theorem bk_Mo_four_3 {k : Nat} {pa pb : Nat} {ga : Nat → Nat} {I : pm_II} {J : pm_JJ} {Q : Option Value → pm_H → Prop} {x1 : Int32} {x2 : Int32} (h : ((x2 < 0 → Q none (hp I J (pm_RT pa pb ga))) ∧ (¬ (x2 < 0) → vp_in (I 120 2) 1600 ∧ Px k 176 m_Mo_four 3 [.ref 120, .int x1, .int (x2 + Int32.ofInt (-8))] [] (hp (pm_up (pm_up I 121 (((I 120 2) : Int32).toNatClampNeg) ((x1 >>> (x2 &&& 31)) &&& (255 : Int32))) 120 2 ((I 120 2) + (1 : Int32))) J (pm_RT pa pb ga)) Q))) : Px k 176 m_Mo_four 3 [.ref 120, .int x1, .int x2] [] (hp I J (pm_RT pa pb ga)) Q := by
  refine x_l 4 rfl rfl rfl ?_
  refine x_b 7 rfl rfl rfl (fun c => ?_) (fun c => ?_)
  · have h := h.1 c
    exact x_rv rfl rfl h
  · have h := h.2 c
    refine x_l 8 rfl rfl rfl ?_
    refine z_gf 11 (.ref 121) rfl ⟨rfl, rfl, rfl⟩ rfl rfl ?_
    refine x_l 12 rfl rfl rfl ?_
    refine z_gf 15 (.int (I 120 2)) rfl ⟨rfl, rfl, rfl⟩ rfl rfl ?_
    refine x_l 16 rfl rfl rfl ?_
    refine x_l 17 rfl rfl rfl ?_
    refine x_s 18 rfl rfl rfl ?_
    refine z_k 21 255 rfl (by decide) rfl ?_
    refine x_s 22 rfl rfl rfl ?_
    have h1 := h.1
    have h := h.2
    refine z_is 23 1600 rfl ⟨rfl, rfl, rfl⟩ rfl h1 rfl ?_
    refine x_l 24 rfl rfl rfl ?_
    refine x_s 25 rfl rfl rfl ?_
    refine z_gf 28 (.int (I 120 2)) rfl ⟨rfl, rfl, rfl⟩ rfl rfl ?_
    refine z_k 29 1 rfl (by decide) rfl ?_
    refine x_s 30 rfl rfl rfl ?_
    refine z_pi 33 rfl (Or.inl rfl) rfl (fun z => by cases z) ⟨rfl, rfl, rfl⟩ rfl ?_
    refine x_t 36 rfl rfl rfl ?_
    refine x_g rfl ?_
    exact h

theorem bk_Mo_end_0 {k : Nat} {pa pb : Nat} {ga : Nat → Nat} {I : pm_II} {J : pm_JJ} {Q : Option Value → pm_H → Prop} {x1 : Int32} (h : ((x1 < 0 → Q (some (.int (-1))) (hp I J (pm_RT pa pb ga))) ∧ (¬ (x1 < 0) → ((x1 ≤ (I 120 2) → Q (some (.int x1)) (hp (pm_up I 120 2 x1) J (pm_RT pa pb ga))) ∧ (¬ (x1 ≤ (I 120 2)) → Q (some (.int (-1))) (hp I J (pm_RT pa pb ga))))))) : Px k 176 m_Mo_end 0 [.ref 120, .int x1] [] (hp I J (pm_RT pa pb ga)) Q := by
  refine x_l 1 rfl rfl rfl ?_
  refine x_b 4 rfl rfl rfl (fun c => ?_) (fun c => ?_)
  · have h := h.1 c
    refine z_k 13 (-1) rfl (by decide) rfl ?_
    exact x_ri rfl (Or.inl rfl) h
  · have h := h.2 c
    refine x_l 5 rfl rfl rfl ?_
    refine x_l 6 rfl rfl rfl ?_
    refine z_gf 9 (.int (I 120 2)) rfl ⟨rfl, rfl, rfl⟩ rfl rfl ?_
    refine x_b 12 rfl rfl rfl (fun c => ?_) (fun c => ?_)
    · have h := h.1 c
      refine x_l 15 rfl rfl rfl ?_
      refine x_l 16 rfl rfl rfl ?_
      refine z_pi 19 rfl (Or.inl rfl) rfl (fun z => by cases z) ⟨rfl, rfl, rfl⟩ rfl ?_
      refine x_l 20 rfl rfl rfl ?_
      exact x_ri rfl (Or.inl rfl) h
    · have h := h.2 c
      refine z_k 13 (-1) rfl (by decide) rfl ?_
      exact x_ri rfl (Or.inl rfl) h

theorem bk_Mo_cut_0 {k : Nat} {pa pb : Nat} {ga : Nat → Nat} {I : pm_II} {J : pm_JJ} {Q : Option Value → pm_H → Prop} (h : Px k 176 m_Mo_take 0 [.ref 120, .null] [] (hp I J (pm_RT pa pb ga)) (fun r h' => h'.1 = 176 ∧ Px (k + 1) 176 m_Mo_cut 4 [.ref 120, .null, .null, .null, .null, .null, .null, .null] (r.toList ++ []) h' Q)) : Px (k + 1) 176 m_Mo_cut 0 [.ref 120, .null, .null, .null, .null, .null, .null, .null] [] (hp I J (pm_RT pa pb ga)) Q := by
  refine x_l 1 rfl rfl rfl ?_
  exact z_cv (As := []) (rest := []) (b := 120) rfl at_Mo_take rfl rfl (Nat.le_of_ble_eq_true rfl) (Nat.le_of_ble_eq_true rfl) ⟨rfl, rfl, rfl⟩ (by decide) rfl h

theorem bk_Mo_cut_4 {k : Nat} {pa pb : Nat} {ga : Nat → Nat} {I : pm_II} {J : pm_JJ} {Q : Option Value → pm_H → Prop} (h : Px k 176 m_Mo_isWord 0 [.ref 120, .ref 3, .null, .null, .null] [] (hp I J (pm_RT pa pb ga)) (fun r h' => h'.1 = 176 ∧ Px (k + 1) 176 m_Mo_cut 20 [.ref 120, .int 0, .int 0, .int 0, .int 0, .null, .null, .null] (r.toList ++ []) h' Q)) : Px (k + 1) 176 m_Mo_cut 4 [.ref 120, .null, .null, .null, .null, .null, .null, .null] [] (hp I J (pm_RT pa pb ga)) Q := by
  refine z_k 5 0 rfl (by decide) rfl ?_
  refine x_t 6 rfl rfl rfl ?_
  refine z_k 7 0 rfl (by decide) rfl ?_
  refine x_t 8 rfl rfl rfl ?_
  refine z_k 9 0 rfl (by decide) rfl ?_
  refine x_t 10 rfl rfl rfl ?_
  refine z_k 11 0 rfl (by decide) rfl ?_
  refine x_t 13 rfl rfl rfl ?_
  refine x_l 14 rfl rfl rfl ?_
  refine x_ls 17 rfl (Or.inr rfl) rfl ?_
  exact z_cv (As := [.ref 3]) (rest := []) (b := 120) rfl at_Mo_isWord rfl rfl (Nat.le_of_ble_eq_true rfl) (Nat.le_of_ble_eq_true rfl) ⟨rfl, rfl, rfl⟩ (by decide) rfl h

theorem bk_Mo_cut_20 {k : Nat} {pa pb : Nat} {ga : Nat → Nat} {I : pm_II} {J : pm_JJ} {Q : Option Value → pm_H → Prop} {x1 : Int32} {x2 : Int32} {x3 : Int32} {x4 : Int32} {s0 : Int32} (h : ((¬ s0 = 0 → Px (k + 1) 176 m_Mo_cut 28 [.ref 120, .int x1, .int x2, .int x3, .int x4, .null, .null, .null] [] (hp I J (pm_RT pa pb ga)) Q) ∧ (¬ (¬ s0 = 0) → Px k 176 m_Mo_fail 0 [.ref 120, .int 0] [] (hp I J (pm_RT pa pb ga)) (fun r h' => h'.1 = 176 ∧ Px (k + 1) 176 m_Mo_cut 28 [.ref 120, .int x1, .int x2, .int x3, .int x4, .null, .null, .null] (r.toList ++ []) h' Q)))) : Px (k + 1) 176 m_Mo_cut 20 [.ref 120, .int x1, .int x2, .int x3, .int x4, .null, .null, .null] [.int s0] (hp I J (pm_RT pa pb ga)) Q := by
  refine x_b 23 rfl rfl rfl (fun c => ?_) (fun c => ?_)
  · have h := h.1 c
    exact h
  · have h := h.2 c
    refine x_l 24 rfl rfl rfl ?_
    refine z_k 25 0 rfl (by decide) rfl ?_
    exact z_cv (As := [.int 0]) (rest := []) (b := 120) rfl at_Mo_fail rfl rfl (Nat.le_of_ble_eq_true rfl) (Nat.le_of_ble_eq_true rfl) ⟨rfl, rfl, rfl⟩ (by decide) rfl h

theorem bk_Mo_cut_28 {k : Nat} {pa pb : Nat} {ga : Nat → Nat} {I : pm_II} {J : pm_JJ} {Q : Option Value → pm_H → Prop} {x1 : Int32} {x2 : Int32} {x3 : Int32} {x4 : Int32} (h : Px k 176 m_Mo_behind 0 [.ref 120, .int 50, .int 400] [] (hp I J (pm_RT pa pb ga)) (fun r h' => h'.1 = 176 ∧ Px (k + 1) 176 m_Mo_cut 37 [.ref 120, .int x1, .int x2, .int x3, .int x4, .null, .null, .null] (r.toList ++ []) h' Q)) : Px (k + 1) 176 m_Mo_cut 28 [.ref 120, .int x1, .int x2, .int x3, .int x4, .null, .null, .null] [] (hp I J (pm_RT pa pb ga)) Q := by
  refine x_l 29 rfl rfl rfl ?_
  refine z_k 31 50 rfl (by decide) rfl ?_
  refine z_k 34 400 rfl (by decide) rfl ?_
  exact z_cv (As := [.int 50, .int 400]) (rest := []) (b := 120) rfl at_Mo_behind rfl rfl (Nat.le_of_ble_eq_true rfl) (Nat.le_of_ble_eq_true rfl) ⟨rfl, rfl, rfl⟩ (by decide) rfl h

theorem bk_Mo_cut_37 {k : Nat} {pa pb : Nat} {ga : Nat → Nat} {I : pm_II} {J : pm_JJ} {Q : Option Value → pm_H → Prop} {x1 : Int32} {x2 : Int32} {x3 : Int32} {x4 : Int32} {s0 : Int32} (h : Px k 176 m_Mo_behind 0 [.ref 120, .int 1, .int 6] [] (hp I J (pm_RT pa pb ga)) (fun r h' => h'.1 = 176 ∧ Px (k + 1) 176 m_Mo_cut 45 [.ref 120, .int s0, .int x2, .int x3, .int x4, .null, .null, .null] (r.toList ++ []) h' Q)) : Px (k + 1) 176 m_Mo_cut 37 [.ref 120, .int x1, .int x2, .int x3, .int x4, .null, .null, .null] [.int s0] (hp I J (pm_RT pa pb ga)) Q := by
  refine x_t 38 rfl rfl rfl ?_
  refine x_l 39 rfl rfl rfl ?_
  refine z_k 40 1 rfl (by decide) rfl ?_
  refine z_k 42 6 rfl (by decide) rfl ?_
  exact z_cv (As := [.int 1, .int 6]) (rest := []) (b := 120) rfl at_Mo_behind rfl rfl (Nat.le_of_ble_eq_true rfl) (Nat.le_of_ble_eq_true rfl) ⟨rfl, rfl, rfl⟩ (by decide) rfl h

theorem bk_Mo_cut_45 {k : Nat} {pa pb : Nat} {ga : Nat → Nat} {I : pm_II} {J : pm_JJ} {Q : Option Value → pm_H → Prop} {x1 : Int32} {x2 : Int32} {x3 : Int32} {x4 : Int32} {s0 : Int32} (h : Px k 176 m_Mo_need 0 [.ref 120, .int 10] [] (hp I J (pm_RT pa pb ga)) (fun r h' => h'.1 = 176 ∧ Px (k + 1) 176 m_Mo_cut 52 [.ref 120, .int x1, .int s0, .int x3, .int x4, .null, .null, .null] (r.toList ++ []) h' Q)) : Px (k + 1) 176 m_Mo_cut 45 [.ref 120, .int x1, .int x2, .int x3, .int x4, .null, .null, .null] [.int s0] (hp I J (pm_RT pa pb ga)) Q := by
  refine x_t 46 rfl rfl rfl ?_
  refine x_l 47 rfl rfl rfl ?_
  refine z_k 49 10 rfl (by decide) rfl ?_
  exact z_cv (As := [.int 10]) (rest := []) (b := 120) rfl at_Mo_need rfl rfl (Nat.le_of_ble_eq_true rfl) (Nat.le_of_ble_eq_true rfl) ⟨rfl, rfl, rfl⟩ (by decide) rfl h

theorem bk_Mo_cut_52 {k : Nat} {pa pb : Nat} {ga : Nat → Nat} {I : pm_II} {J : pm_JJ} {Q : Option Value → pm_H → Prop} {x1 : Int32} {x2 : Int32} {x3 : Int32} {x4 : Int32} (h : Px k 176 m_Mo_bad 0 [.ref 120] [] (hp I J (pm_RT pa pb ga)) (fun r h' => h'.1 = 176 ∧ Px (k + 1) 176 m_Mo_cut 56 [.ref 120, .int x1, .int x2, .int x3, .int x4, .null, .null, .null] (r.toList ++ []) h' Q)) : Px (k + 1) 176 m_Mo_cut 52 [.ref 120, .int x1, .int x2, .int x3, .int x4, .null, .null, .null] [] (hp I J (pm_RT pa pb ga)) Q := by
  refine x_l 53 rfl rfl rfl ?_
  exact z_cv (As := []) (rest := []) (b := 120) rfl at_Mo_bad rfl rfl (Nat.le_of_ble_eq_true rfl) (Nat.le_of_ble_eq_true rfl) ⟨rfl, rfl, rfl⟩ (by decide) rfl h

theorem bk_Mo_cut_56 {k : Nat} {pa pb : Nat} {ga : Nat → Nat} {I : pm_II} {J : pm_JJ} {Q : Option Value → pm_H → Prop} {x1 : Int32} {x2 : Int32} {x3 : Int32} {x4 : Int32} {s0 : Int32} (h : ((¬ s0 = 0 → Px (k + 1) 176 m_Mo_cut 244 [.ref 120, .int x1, .int x2, .int x3, .int x4, .null, .null, .null] [] (hp I J (pm_RT pa pb ga)) Q) ∧ (¬ (¬ s0 = 0) → (((I 120 4) < (I 120 3) → Px (k + 1) 176 m_Mo_cut 74 [.ref 120, .int x1, .int x2, .int x3, .int x4, .null, .null, .null] [] (hp I J (pm_RT pa pb ga)) Q) ∧ (¬ ((I 120 4) < (I 120 3)) → ((¬ x3 = 0 → Px (k + 1) 176 m_Mo_cut 244 [.ref 120, .int x1, .int x2, .int x3, .int x4, .null, .null, .null] [] (hp I J (pm_RT pa pb ga)) Q) ∧ (¬ (¬ x3 = 0) → Px (k + 1) 176 m_Mo_cut 74 [.ref 120, .int x1, .int x2, .int x3, .int x4, .null, .null, .null] [] (hp I J (pm_RT pa pb ga)) Q))))))) : Px (k + 1) 176 m_Mo_cut 56 [.ref 120, .int x1, .int x2, .int x3, .int x4, .null, .null, .null] [.int s0] (hp I J (pm_RT pa pb ga)) Q := by
  refine x_b 59 rfl rfl rfl (fun c => ?_) (fun c => ?_)
  · have h := h.1 c
    exact h
  · have h := h.2 c
    refine x_l 60 rfl rfl rfl ?_
    refine z_gf 63 (.int (I 120 4)) rfl ⟨rfl, rfl, rfl⟩ rfl rfl ?_
    refine x_l 64 rfl rfl rfl ?_
    refine z_gf 67 (.int (I 120 3)) rfl ⟨rfl, rfl, rfl⟩ rfl rfl ?_
    refine x_b 70 rfl rfl rfl (fun c => ?_) (fun c => ?_)
    · have h := h.1 c
      exact h
    · have h := h.2 c
      refine x_l 71 rfl rfl rfl ?_
      refine x_b 74 rfl rfl rfl (fun c => ?_) (fun c => ?_)
      · have h := h.1 c
        exact h
      · have h := h.2 c
        exact h

theorem bk_Mo_cut_74 {k : Nat} {pa pb : Nat} {ga : Nat → Nat} {I : pm_II} {J : pm_JJ} {Q : Option Value → pm_H → Prop} {x1 : Int32} {x2 : Int32} {x3 : Int32} {x4 : Int32} (h : ((x3 = 4 → Px (k + 1) 176 m_Mo_cut 89 [.ref 120, .int x1, .int x2, .int x3, .int x4, .null, .null, .null] [] (hp I J (pm_RT pa pb ga)) Q) ∧ (¬ (x3 = 4) → Px k 176 m_Mo_isWord 0 [.ref 120, .ref 4, .null, .null, .null] [] (hp I J (pm_RT pa pb ga)) (fun r h' => h'.1 = 176 ∧ Px (k + 1) 176 m_Mo_cut 86 [.ref 120, .int x1, .int x2, .int x3, .int x4, .null, .null, .null] (r.toList ++ []) h' Q)))) : Px (k + 1) 176 m_Mo_cut 74 [.ref 120, .int x1, .int x2, .int x3, .int x4, .null, .null, .null] [] (hp I J (pm_RT pa pb ga)) Q := by
  refine x_l 75 rfl rfl rfl ?_
  refine z_k 76 4 rfl (by decide) rfl ?_
  refine x_b 79 rfl rfl rfl (fun c => ?_) (fun c => ?_)
  · have h := h.1 c
    exact h
  · have h := h.2 c
    refine x_l 80 rfl rfl rfl ?_
    refine x_ls 83 rfl (Or.inr rfl) rfl ?_
    exact z_cv (As := [.ref 4]) (rest := []) (b := 120) rfl at_Mo_isWord rfl rfl (Nat.le_of_ble_eq_true rfl) (Nat.le_of_ble_eq_true rfl) ⟨rfl, rfl, rfl⟩ (by decide) rfl h

theorem bk_Mo_cut_86 {k : Nat} {pa pb : Nat} {ga : Nat → Nat} {I : pm_II} {J : pm_JJ} {Q : Option Value → pm_H → Prop} {x1 : Int32} {x2 : Int32} {x3 : Int32} {x4 : Int32} {s0 : Int32} (h : ((¬ s0 = 0 → Px (k + 1) 176 m_Mo_cut 97 [.ref 120, .int x1, .int x2, .int x3, .int x4, .null, .null, .null] [] (hp I J (pm_RT pa pb ga)) Q) ∧ (¬ (¬ s0 = 0) → Px (k + 1) 176 m_Mo_cut 89 [.ref 120, .int x1, .int x2, .int x3, .int x4, .null, .null, .null] [] (hp I J (pm_RT pa pb ga)) Q))) : Px (k + 1) 176 m_Mo_cut 86 [.ref 120, .int x1, .int x2, .int x3, .int x4, .null, .null, .null] [.int s0] (hp I J (pm_RT pa pb ga)) Q := by
  refine x_b 89 rfl rfl rfl (fun c => ?_) (fun c => ?_)
  · have h := h.1 c
    exact h
  · have h := h.2 c
    exact h

theorem bk_Mo_cut_89 {k : Nat} {pa pb : Nat} {ga : Nat → Nat} {I : pm_II} {J : pm_JJ} {Q : Option Value → pm_H → Prop} {x1 : Int32} {x2 : Int32} {x3 : Int32} {x4 : Int32} (h : Px k 176 m_Mo_fail 0 [.ref 120, .int (I 120 4)] [] (hp I J (pm_RT pa pb ga)) (fun r h' => h'.1 = 176 ∧ Px (k + 1) 176 m_Mo_cut 97 [.ref 120, .int x1, .int x2, .int x3, .int x4, .null, .null, .null] (r.toList ++ []) h' Q)) : Px (k + 1) 176 m_Mo_cut 89 [.ref 120, .int x1, .int x2, .int x3, .int x4, .null, .null, .null] [] (hp I J (pm_RT pa pb ga)) Q := by
  refine x_l 90 rfl rfl rfl ?_
  refine x_l 91 rfl rfl rfl ?_
  refine z_gf 94 (.int (I 120 4)) rfl ⟨rfl, rfl, rfl⟩ rfl rfl ?_
  exact z_cv (As := [.int (I 120 4)]) (rest := []) (b := 120) rfl at_Mo_fail rfl rfl (Nat.le_of_ble_eq_true rfl) (Nat.le_of_ble_eq_true rfl) ⟨rfl, rfl, rfl⟩ (by decide) rfl h

theorem bk_Mo_cut_97 {k : Nat} {pa pb : Nat} {ga : Nat → Nat} {I : pm_II} {J : pm_JJ} {Q : Option Value → pm_H → Prop} {x1 : Int32} {x2 : Int32} {x3 : Int32} {x4 : Int32} (h : Px k 176 m_Mo_need 0 [.ref 120, .int 32] [] (hp I J (pm_RT pa pb ga)) (fun r h' => h'.1 = 176 ∧ Px (k + 1) 176 m_Mo_cut 103 [.ref 120, .int x1, .int x2, .int x3, .int x4, .null, .null, .null] (r.toList ++ []) h' Q)) : Px (k + 1) 176 m_Mo_cut 97 [.ref 120, .int x1, .int x2, .int x3, .int x4, .null, .null, .null] [] (hp I J (pm_RT pa pb ga)) Q := by
  refine x_l 98 rfl rfl rfl ?_
  refine z_k 100 32 rfl (by decide) rfl ?_
  exact z_cv (As := [.int 32]) (rest := []) (b := 120) rfl at_Mo_need rfl rfl (Nat.le_of_ble_eq_true rfl) (Nat.le_of_ble_eq_true rfl) ⟨rfl, rfl, rfl⟩ (by decide) rfl h

theorem bk_Mo_cut_103 {k : Nat} {pa pb : Nat} {ga : Nat → Nat} {I : pm_II} {J : pm_JJ} {Q : Option Value → pm_H → Prop} {x1 : Int32} {x2 : Int32} {x3 : Int32} {x4 : Int32} (h : Px k 176 m_Mo_told 0 [.ref 120, .int 10, .int x1, .null, .null] [] (hp I J (pm_RT pa pb ga)) (fun r h' => h'.1 = 176 ∧ Px (k + 1) 176 m_Mo_cut 116 [.ref 120, .int x1, .int x2, .int x3, .int x4, .int (I 120 4), .null, .null] (r.toList ++ []) h' Q)) : Px (k + 1) 176 m_Mo_cut 103 [.ref 120, .int x1, .int x2, .int x3, .int x4, .null, .null, .null] [] (hp I J (pm_RT pa pb ga)) Q := by
  refine x_l 104 rfl rfl rfl ?_
  refine z_gf 107 (.int (I 120 4)) rfl ⟨rfl, rfl, rfl⟩ rfl rfl ?_
  refine x_t 109 rfl rfl rfl ?_
  refine x_l 110 rfl rfl rfl ?_
  refine z_k 112 10 rfl (by decide) rfl ?_
  refine x_l 113 rfl rfl rfl ?_
  exact z_cv (As := [.int 10, .int x1]) (rest := []) (b := 120) rfl at_Mo_told rfl rfl (Nat.le_of_ble_eq_true rfl) (Nat.le_of_ble_eq_true rfl) ⟨rfl, rfl, rfl⟩ (by decide) rfl h

theorem bk_Mo_cut_116 {k : Nat} {pa pb : Nat} {ga : Nat → Nat} {I : pm_II} {J : pm_JJ} {Q : Option Value → pm_H → Prop} {x1 : Int32} {x2 : Int32} {x3 : Int32} {x4 : Int32} {x5 : Int32} {s0 : Int32} (h : Px (k + 1) 176 m_Mo_cut 121 [.ref 120, .int x1, .int x2, .int x3, .int x4, .int x5, .int s0, .int 0] [] (hp I J (pm_RT pa pb ga)) Q) : Px (k + 1) 176 m_Mo_cut 116 [.ref 120, .int x1, .int x2, .int x3, .int x4, .int x5, .null, .null] [.int s0] (hp I J (pm_RT pa pb ga)) Q := by
  refine x_t 118 rfl rfl rfl ?_
  refine z_k 119 0 rfl (by decide) rfl ?_
  refine x_t 121 rfl rfl rfl ?_
  exact h

theorem bk_Mo_cut_121 {k : Nat} {pa pb : Nat} {ga : Nat → Nat} {I : pm_II} {J : pm_JJ} {Q : Option Value → pm_H → Prop} {x1 : Int32} {x2 : Int32} {x3 : Int32} {x4 : Int32} {x5 : Int32} {x6 : Int32} {x7 : Int32} (h : ((x3 ≤ x7 → Px (k + 1) 176 m_Mo_cut 158 [.ref 120, .int x1, .int x2, .int x3, .int x4, .int x5, .int x6, .int x7] [] (hp I J (pm_RT pa pb ga)) Q) ∧ (¬ (x3 ≤ x7) → Px k 176 m_Mo_bad 0 [.ref 120] [] (hp I J (pm_RT pa pb ga)) (fun r h' => h'.1 = 176 ∧ Px (k + 1) 176 m_Mo_cut 131 [.ref 120, .int x1, .int x2, .int x3, .int x4, .int x5, .int x6, .int x7] (r.toList ++ []) h' Q)))) : Px (k + 1) 176 m_Mo_cut 121 [.ref 120, .int x1, .int x2, .int x3, .int x4, .int x5, .int x6, .int x7] [] (hp I J (pm_RT pa pb ga)) Q := by
  refine x_l 123 rfl rfl rfl ?_
  refine x_l 124 rfl rfl rfl ?_
  refine x_b 127 rfl rfl rfl (fun c => ?_) (fun c => ?_)
  · have h := h.1 c
    exact h
  · have h := h.2 c
    refine x_l 128 rfl rfl rfl ?_
    exact z_cv (As := []) (rest := []) (b := 120) rfl at_Mo_bad rfl rfl (Nat.le_of_ble_eq_true rfl) (Nat.le_of_ble_eq_true rfl) ⟨rfl, rfl, rfl⟩ (by decide) rfl h

theorem bk_Mo_cut_131 {k : Nat} {pa pb : Nat} {ga : Nat → Nat} {I : pm_II} {J : pm_JJ} {Q : Option Value → pm_H → Prop} {x1 : Int32} {x2 : Int32} {x3 : Int32} {x4 : Int32} {x5 : Int32} {x6 : Int32} {x7 : Int32} {s0 : Int32} (h : ((¬ s0 = 0 → Px (k + 1) 176 m_Mo_cut 158 [.ref 120, .int x1, .int x2, .int x3, .int x4, .int x5, .int x6, .int x7] [] (hp I J (pm_RT pa pb ga)) Q) ∧ (¬ (¬ s0 = 0) → vp_in x7 4 ∧ ((¬ (I 125 ((x7 : Int32).toNatClampNeg)) = x6 → Px (k + 1) 176 m_Mo_cut 152 [.ref 120, .int x1, .int x2, .int x3, .int x4, .int x5, .int x6, .int x7] [] (hp I J (pm_RT pa pb ga)) Q) ∧ (¬ (¬ (I 125 ((x7 : Int32).toNatClampNeg)) = x6) → Px k 176 m_Mo_fail 0 [.ref 120, .int x5] [] (hp I J (pm_RT pa pb ga)) (fun r h' => h'.1 = 176 ∧ Px (k + 1) 176 m_Mo_cut 152 [.ref 120, .int x1, .int x2, .int x3, .int x4, .int x5, .int x6, .int x7] (r.toList ++ []) h' Q)))))) : Px (k + 1) 176 m_Mo_cut 131 [.ref 120, .int x1, .int x2, .int x3, .int x4, .int x5, .int x6, .int x7] [.int s0] (hp I J (pm_RT pa pb ga)) Q := by
  refine x_b 134 rfl rfl rfl (fun c => ?_) (fun c => ?_)
  · have h := h.1 c
    exact h
  · have h := h.2 c
    refine x_l 135 rfl rfl rfl ?_
    refine z_gf 138 (.ref 125) rfl ⟨rfl, rfl, rfl⟩ rfl rfl ?_
    refine x_l 140 rfl rfl rfl ?_
    have h1 := h.1
    have h := h.2
    refine z_il 141 4 rfl ⟨rfl, rfl, rfl⟩ rfl h1 rfl ?_
    refine x_l 143 rfl rfl rfl ?_
    refine x_b 146 rfl rfl rfl (fun c => ?_) (fun c => ?_)
    · have h := h.1 c
      exact h
    · have h := h.2 c
      refine x_l 147 rfl rfl rfl ?_
      refine x_l 149 rfl rfl rfl ?_
      exact z_cv (As := [.int x5]) (rest := []) (b := 120) rfl at_Mo_fail rfl rfl (Nat.le_of_ble_eq_true rfl) (Nat.le_of_ble_eq_true rfl) ⟨rfl, rfl, rfl⟩ (by decide) rfl h

theorem bk_Mo_cut_152 {k : Nat} {pa pb : Nat} {ga : Nat → Nat} {I : pm_II} {J : pm_JJ} {Q : Option Value → pm_H → Prop} {x1 : Int32} {x2 : Int32} {x3 : Int32} {x4 : Int32} {x5 : Int32} {x6 : Int32} {x7 : Int32} (h : Px (k + 1) 176 m_Mo_cut 121 [.ref 120, .int x1, .int x2, .int x3, .int x4, .int x5, .int x6, .int (x7 + Int32.ofInt 1)] [] (hp I J (pm_RT pa pb ga)) Q) : Px (k + 1) 176 m_Mo_cut 152 [.ref 120, .int x1, .int x2, .int x3, .int x4, .int x5, .int x6, .int x7] [] (hp I J (pm_RT pa pb ga)) Q := by
  refine x_t 155 rfl rfl rfl ?_
  refine x_g rfl ?_
  exact h

theorem bk_Mo_cut_158 {k : Nat} {pa pb : Nat} {ga : Nat → Nat} {I : pm_II} {J : pm_JJ} {Q : Option Value → pm_H → Prop} {x1 : Int32} {x2 : Int32} {x3 : Int32} {x4 : Int32} {x5 : Int32} {x6 : Int32} {x7 : Int32} (h : Px k 176 m_Mo_need 0 [.ref 120, .int 32] [] (hp I J (pm_RT pa pb ga)) (fun r h' => h'.1 = 176 ∧ Px (k + 1) 176 m_Mo_cut 164 [.ref 120, .int x1, .int x2, .int x3, .int x4, .int x5, .int x6, .int x7] (r.toList ++ []) h' Q)) : Px (k + 1) 176 m_Mo_cut 158 [.ref 120, .int x1, .int x2, .int x3, .int x4, .int x5, .int x6, .int x7] [] (hp I J (pm_RT pa pb ga)) Q := by
  refine x_l 159 rfl rfl rfl ?_
  refine z_k 161 32 rfl (by decide) rfl ?_
  exact z_cv (As := [.int 32]) (rest := []) (b := 120) rfl at_Mo_need rfl rfl (Nat.le_of_ble_eq_true rfl) (Nat.le_of_ble_eq_true rfl) ⟨rfl, rfl, rfl⟩ (by decide) rfl h

theorem bk_Mo_cut_164 {k : Nat} {pa pb : Nat} {ga : Nat → Nat} {I : pm_II} {J : pm_JJ} {Q : Option Value → pm_H → Prop} {x1 : Int32} {x2 : Int32} {x3 : Int32} {x4 : Int32} {x5 : Int32} {x6 : Int32} {x7 : Int32} (h : Px k 176 m_Mo_told 0 [.ref 120, .int 1, .int 9, .null, .null] [] (hp I J (pm_RT pa pb ga)) (fun r h' => h'.1 = 176 ∧ Px (k + 1) 176 m_Mo_cut 177 [.ref 120, .int x1, .int x2, .int x3, .int x4, .int (I 120 4), .int x6, .int x7] (r.toList ++ []) h' Q)) : Px (k + 1) 176 m_Mo_cut 164 [.ref 120, .int x1, .int x2, .int x3, .int x4, .int x5, .int x6, .int x7] [] (hp I J (pm_RT pa pb ga)) Q := by
  refine x_l 165 rfl rfl rfl ?_
  refine z_gf 168 (.int (I 120 4)) rfl ⟨rfl, rfl, rfl⟩ rfl rfl ?_
  refine x_t 170 rfl rfl rfl ?_
  refine x_l 171 rfl rfl rfl ?_
  refine z_k 172 1 rfl (by decide) rfl ?_
  refine z_k 174 9 rfl (by decide) rfl ?_
  exact z_cv (As := [.int 1, .int 9]) (rest := []) (b := 120) rfl at_Mo_told rfl rfl (Nat.le_of_ble_eq_true rfl) (Nat.le_of_ble_eq_true rfl) ⟨rfl, rfl, rfl⟩ (by decide) rfl h

theorem bk_Mo_cut_177 {k : Nat} {pa pb : Nat} {ga : Nat → Nat} {I : pm_II} {J : pm_JJ} {Q : Option Value → pm_H → Prop} {x1 : Int32} {x2 : Int32} {x3 : Int32} {x4 : Int32} {x5 : Int32} {x6 : Int32} {x7 : Int32} {s0 : Int32} (h : Px k 176 m_Mo_bad 0 [.ref 120] [] (hp I J (pm_RT pa pb ga)) (fun r h' => h'.1 = 176 ∧ Px (k + 1) 176 m_Mo_cut 190 [.ref 120, .int x1, .int x2, .int x3, .int (x4 + s0), .int x5, .int x6, .int s0] (r.toList ++ []) h' Q)) : Px (k + 1) 176 m_Mo_cut 177 [.ref 120, .int x1, .int x2, .int x3, .int x4, .int x5, .int x6, .int x7] [.int s0] (hp I J (pm_RT pa pb ga)) Q := by
  refine x_t 179 rfl rfl rfl ?_
  refine x_l 181 rfl rfl rfl ?_
  refine x_l 183 rfl rfl rfl ?_
  refine x_s 184 rfl rfl rfl ?_
  refine x_t 186 rfl rfl rfl ?_
  refine x_l 187 rfl rfl rfl ?_
  exact z_cv (As := []) (rest := []) (b := 120) rfl at_Mo_bad rfl rfl (Nat.le_of_ble_eq_true rfl) (Nat.le_of_ble_eq_true rfl) ⟨rfl, rfl, rfl⟩ (by decide) rfl h

theorem bk_Mo_cut_190 {k : Nat} {pa pb : Nat} {ga : Nat → Nat} {I : pm_II} {J : pm_JJ} {Q : Option Value → pm_H → Prop} {x1 : Int32} {x2 : Int32} {x3 : Int32} {x4 : Int32} {x5 : Int32} {x6 : Int32} {x7 : Int32} {s0 : Int32} (h : ((¬ s0 = 0 → Px (k + 1) 176 m_Mo_cut 206 [.ref 120, .int x1, .int x2, .int x3, .int x4, .int x5, .int x6, .int x7] [] (hp I J (pm_RT pa pb ga)) Q) ∧ (¬ (¬ s0 = 0) → ((x4 ≤ 16 → Px (k + 1) 176 m_Mo_cut 206 [.ref 120, .int x1, .int x2, .int x3, .int x4, .int x5, .int x6, .int x7] [] (hp I J (pm_RT pa pb ga)) Q) ∧ (¬ (x4 ≤ 16) → Px k 176 m_Mo_fail 0 [.ref 120, .int x5] [] (hp I J (pm_RT pa pb ga)) (fun r h' => h'.1 = 176 ∧ Px (k + 1) 176 m_Mo_cut 206 [.ref 120, .int x1, .int x2, .int x3, .int x4, .int x5, .int x6, .int x7] (r.toList ++ []) h' Q)))))) : Px (k + 1) 176 m_Mo_cut 190 [.ref 120, .int x1, .int x2, .int x3, .int x4, .int x5, .int x6, .int x7] [.int s0] (hp I J (pm_RT pa pb ga)) Q := by
  refine x_b 193 rfl rfl rfl (fun c => ?_) (fun c => ?_)
  · have h := h.1 c
    exact h
  · have h := h.2 c
    refine x_l 195 rfl rfl rfl ?_
    refine z_k 197 16 rfl (by decide) rfl ?_
    refine x_b 200 rfl rfl rfl (fun c => ?_) (fun c => ?_)
    · have h := h.1 c
      exact h
    · have h := h.2 c
      refine x_l 201 rfl rfl rfl ?_
      refine x_l 203 rfl rfl rfl ?_
      exact z_cv (As := [.int x5]) (rest := []) (b := 120) rfl at_Mo_fail rfl rfl (Nat.le_of_ble_eq_true rfl) (Nat.le_of_ble_eq_true rfl) ⟨rfl, rfl, rfl⟩ (by decide) rfl h

theorem bk_Mo_cut_206 {k : Nat} {pa pb : Nat} {ga : Nat → Nat} {I : pm_II} {J : pm_JJ} {Q : Option Value → pm_H → Prop} {x1 : Int32} {x2 : Int32} {x3 : Int32} {x4 : Int32} {x5 : Int32} {x6 : Int32} {x7 : Int32} (h : Px k 176 m_Mo_need 0 [.ref 120, .int 10] [] (hp I J (pm_RT pa pb ga)) (fun r h' => h'.1 = 176 ∧ Px (k + 1) 176 m_Mo_cut 212 [.ref 120, .int x1, .int x2, .int x3, .int x4, .int x5, .int x6, .int x7] (r.toList ++ []) h' Q)) : Px (k + 1) 176 m_Mo_cut 206 [.ref 120, .int x1, .int x2, .int x3, .int x4, .int x5, .int x6, .int x7] [] (hp I J (pm_RT pa pb ga)) Q := by
  refine x_l 207 rfl rfl rfl ?_
  refine z_k 209 10 rfl (by decide) rfl ?_
  exact z_cv (As := [.int 10]) (rest := []) (b := 120) rfl at_Mo_need rfl rfl (Nat.le_of_ble_eq_true rfl) (Nat.le_of_ble_eq_true rfl) ⟨rfl, rfl, rfl⟩ (by decide) rfl h

theorem bk_Mo_cut_212 {k : Nat} {pa pb : Nat} {ga : Nat → Nat} {I : pm_II} {J : pm_JJ} {Q : Option Value → pm_H → Prop} {x1 : Int32} {x2 : Int32} {x3 : Int32} {x4 : Int32} {x5 : Int32} {x6 : Int32} {x7 : Int32} (h : Px k 176 m_Mo_bad 0 [.ref 120] [] (hp I J (pm_RT pa pb ga)) (fun r h' => h'.1 = 176 ∧ Px (k + 1) 176 m_Mo_cut 216 [.ref 120, .int x1, .int x2, .int x3, .int x4, .int x5, .int x6, .int x7] (r.toList ++ []) h' Q)) : Px (k + 1) 176 m_Mo_cut 212 [.ref 120, .int x1, .int x2, .int x3, .int x4, .int x5, .int x6, .int x7] [] (hp I J (pm_RT pa pb ga)) Q := by
  refine x_l 213 rfl rfl rfl ?_
  exact z_cv (As := []) (rest := []) (b := 120) rfl at_Mo_bad rfl rfl (Nat.le_of_ble_eq_true rfl) (Nat.le_of_ble_eq_true rfl) ⟨rfl, rfl, rfl⟩ (by decide) rfl h

theorem bk_Mo_cut_216 {k : Nat} {pa pb : Nat} {ga : Nat → Nat} {I : pm_II} {J : pm_JJ} {Q : Option Value → pm_H → Prop} {x1 : Int32} {x2 : Int32} {x3 : Int32} {x4 : Int32} {x5 : Int32} {x6 : Int32} {x7 : Int32} {s0 : Int32} (h : ((s0 = 0 → vp_in x3 4 ∧ vp_in x3 4 ∧ Px (k + 1) 176 m_Mo_cut 52 [.ref 120, .int x1, .int x2, .int (x3 + Int32.ofInt 1), .int x4, .int x5, .int x6, .int x7] [] (hp (pm_up (pm_up I 125 ((x3 : Int32).toNatClampNeg) x6) 126 ((x3 : Int32).toNatClampNeg) x7) J (pm_RT pa pb ga)) Q) ∧ (¬ (s0 = 0) → Px (k + 1) 176 m_Mo_cut 52 [.ref 120, .int x1, .int x2, .int x3, .int x4, .int x5, .int x6, .int x7] [] (hp I J (pm_RT pa pb ga)) Q))) : Px (k + 1) 176 m_Mo_cut 216 [.ref 120, .int x1, .int x2, .int x3, .int x4, .int x5, .int x6, .int x7] [.int s0] (hp I J (pm_RT pa pb ga)) Q := by
  refine x_b 219 rfl rfl rfl (fun c => ?_) (fun c => ?_)
  · have h := h.1 c
    refine x_l 223 rfl rfl rfl ?_
    refine z_gf 226 (.ref 125) rfl ⟨rfl, rfl, rfl⟩ rfl rfl ?_
    refine x_l 227 rfl rfl rfl ?_
    refine x_l 229 rfl rfl rfl ?_
    have h1 := h.1
    have h := h.2
    refine z_is 230 4 rfl ⟨rfl, rfl, rfl⟩ rfl h1 rfl ?_
    refine x_l 231 rfl rfl rfl ?_
    refine z_gf 234 (.ref 126) rfl ⟨rfl, rfl, rfl⟩ rfl rfl ?_
    refine x_l 235 rfl rfl rfl ?_
    refine x_l 237 rfl rfl rfl ?_
    have h1 := h.1
    have h := h.2
    refine z_is 238 4 rfl ⟨rfl, rfl, rfl⟩ rfl h1 rfl ?_
    refine x_t 241 rfl rfl rfl ?_
    refine x_g rfl ?_
    exact h
  · have h := h.2 c
    refine x_g rfl ?_
    exact h

theorem bk_Mo_cut_244 {k : Nat} {pa pb : Nat} {ga : Nat → Nat} {I : pm_II} {J : pm_JJ} {Q : Option Value → pm_H → Prop} {x1 : Int32} {x2 : Int32} {x3 : Int32} {x4 : Int32} (h : Px k 176 m_Mo_bad 0 [.ref 120] [] (hp I J (pm_RT pa pb ga)) (fun r h' => h'.1 = 176 ∧ Px (k + 1) 176 m_Mo_cut 248 [.ref 120, .int x1, .int x2, .int x3, .int x4, .null, .null, .null] (r.toList ++ []) h' Q)) : Px (k + 1) 176 m_Mo_cut 244 [.ref 120, .int x1, .int x2, .int x3, .int x4, .null, .null, .null] [] (hp I J (pm_RT pa pb ga)) Q := by
  refine x_l 245 rfl rfl rfl ?_
  exact z_cv (As := []) (rest := []) (b := 120) rfl at_Mo_bad rfl rfl (Nat.le_of_ble_eq_true rfl) (Nat.le_of_ble_eq_true rfl) ⟨rfl, rfl, rfl⟩ (by decide) rfl h

theorem bk_Mo_cut_248 {k : Nat} {pa pb : Nat} {ga : Nat → Nat} {I : pm_II} {J : pm_JJ} {Q : Option Value → pm_H → Prop} {x1 : Int32} {x2 : Int32} {x3 : Int32} {x4 : Int32} {s0 : Int32} (h : ((s0 = 0 → Px (k + 1) 176 m_Mo_cut 278 [.ref 120, .int x1, .int x2, .int x3, .int x4, .int 0, .null, .null] [] (hp (pm_up (pm_up (pm_up I 120 12 x1) 120 13 x2) 120 14 x3) J (pm_RT pa pb ga)) Q) ∧ (¬ (s0 = 0) → Q (some (.int (((-1000) : Int32) - (I 120 5)))) (hp I J (pm_RT pa pb ga))))) : Px (k + 1) 176 m_Mo_cut 248 [.ref 120, .int x1, .int x2, .int x3, .int x4, .null, .null, .null] [.int s0] (hp I J (pm_RT pa pb ga)) Q := by
  refine x_b 251 rfl rfl rfl (fun c => ?_) (fun c => ?_)
  · have h := h.1 c
    refine x_l 261 rfl rfl rfl ?_
    refine x_l 262 rfl rfl rfl ?_
    refine z_pi 265 rfl (Or.inl rfl) rfl (fun z => by cases z) ⟨rfl, rfl, rfl⟩ rfl ?_
    refine x_l 266 rfl rfl rfl ?_
    refine x_l 267 rfl rfl rfl ?_
    refine z_pi 270 rfl (Or.inl rfl) rfl (fun z => by cases z) ⟨rfl, rfl, rfl⟩ rfl ?_
    refine x_l 271 rfl rfl rfl ?_
    refine x_l 272 rfl rfl rfl ?_
    refine z_pi 275 rfl (Or.inl rfl) rfl (fun z => by cases z) ⟨rfl, rfl, rfl⟩ rfl ?_
    refine z_k 276 0 rfl (by decide) rfl ?_
    refine x_t 278 rfl rfl rfl ?_
    exact h
  · have h := h.2 c
    refine z_k 254 (-1000) rfl (by decide) rfl ?_
    refine x_l 255 rfl rfl rfl ?_
    refine z_gf 258 (.int (I 120 5)) rfl ⟨rfl, rfl, rfl⟩ rfl rfl ?_
    refine x_s 259 rfl rfl rfl ?_
    exact x_ri rfl (Or.inl rfl) h

theorem bk_Mo_cut_278 {k : Nat} {pa pb : Nat} {ga : Nat → Nat} {I : pm_II} {J : pm_JJ} {Q : Option Value → pm_H → Prop} {x1 : Int32} {x2 : Int32} {x3 : Int32} {x4 : Int32} {x5 : Int32} (h : ((4 ≤ x5 → Px k 176 m_Mo_planned 0 [.ref 120, .null, .null, .null, .null, .null] [] (hp I J (pm_RT pa pb ga)) (fun r h' => h'.1 = 176 ∧ Px (k + 1) 176 m_Mo_cut 332 [.ref 120, .int x1, .int x2, .int x3, .int x4, .int x5, .null, .null] (r.toList ++ []) h' Q)) ∧ (¬ (4 ≤ x5) → vp_in x5 4 ∧ vp_in x5 4 ∧ ((x3 ≤ x5 → vp_in x5 4 ∧ Px (k + 1) 176 m_Mo_cut 278 [.ref 120, .int x1, .int x2, .int x3, .int x4, .int (x5 + Int32.ofInt 1), .null, .null] [] (hp (pm_up (pm_up I 123 ((x5 : Int32).toNatClampNeg) (I 125 ((x5 : Int32).toNatClampNeg))) 124 ((x5 : Int32).toNatClampNeg) 0) J (pm_RT pa pb ga)) Q) ∧ (¬ (x3 ≤ x5) → vp_in x5 4 ∧ vp_in x5 4 ∧ Px (k + 1) 176 m_Mo_cut 278 [.ref 120, .int x1, .int x2, .int x3, .int x4, .int (x5 + Int32.ofInt 1), .null, .null] [] (hp (pm_up (pm_up I 123 ((x5 : Int32).toNatClampNeg) (I 125 ((x5 : Int32).toNatClampNeg))) 124 ((x5 : Int32).toNatClampNeg) (I 126 ((x5 : Int32).toNatClampNeg))) J (pm_RT pa pb ga)) Q))))) : Px (k + 1) 176 m_Mo_cut 278 [.ref 120, .int x1, .int x2, .int x3, .int x4, .int x5, .null, .null] [] (hp I J (pm_RT pa pb ga)) Q := by
  refine x_l 280 rfl rfl rfl ?_
  refine z_k 281 4 rfl (by decide) rfl ?_
  refine x_b 284 rfl rfl rfl (fun c => ?_) (fun c => ?_)
  · have h := h.1 c
    refine x_l 329 rfl rfl rfl ?_
    exact z_cv (As := []) (rest := []) (b := 120) rfl at_Mo_planned rfl rfl (Nat.le_of_ble_eq_true rfl) (Nat.le_of_ble_eq_true rfl) ⟨rfl, rfl, rfl⟩ (by decide) rfl h
  · have h := h.2 c
    refine x_l 285 rfl rfl rfl ?_
    refine z_gf 288 (.ref 123) rfl ⟨rfl, rfl, rfl⟩ rfl rfl ?_
    refine x_l 290 rfl rfl rfl ?_
    refine x_l 291 rfl rfl rfl ?_
    refine z_gf 294 (.ref 125) rfl ⟨rfl, rfl, rfl⟩ rfl rfl ?_
    refine x_l 296 rfl rfl rfl ?_
    have h1 := h.1
    have h := h.2
    refine z_il 297 4 rfl ⟨rfl, rfl, rfl⟩ rfl h1 rfl ?_
    have h1 := h.1
    have h := h.2
    refine z_is 298 4 rfl ⟨rfl, rfl, rfl⟩ rfl h1 rfl ?_
    refine x_l 299 rfl rfl rfl ?_
    refine z_gf 302 (.ref 124) rfl ⟨rfl, rfl, rfl⟩ rfl rfl ?_
    refine x_l 304 rfl rfl rfl ?_
    refine x_l 306 rfl rfl rfl ?_
    refine x_l 307 rfl rfl rfl ?_
    refine x_b 310 rfl rfl rfl (fun c => ?_) (fun c => ?_)
    · have h := h.1 c
      refine z_k 321 0 rfl (by decide) rfl ?_
      have h1 := h.1
      have h := h.2
      refine z_is 322 4 rfl ⟨rfl, rfl, rfl⟩ rfl h1 rfl ?_
      refine x_t 325 rfl rfl rfl ?_
      refine x_g rfl ?_
      exact h
    · have h := h.2 c
      refine x_l 311 rfl rfl rfl ?_
      refine z_gf 314 (.ref 126) rfl ⟨rfl, rfl, rfl⟩ rfl rfl ?_
      refine x_l 316 rfl rfl rfl ?_
      have h1 := h.1
      have h := h.2
      refine z_il 317 4 rfl ⟨rfl, rfl, rfl⟩ rfl h1 rfl ?_
      refine x_g rfl ?_
      have h1 := h.1
      have h := h.2
      refine z_is 322 4 rfl ⟨rfl, rfl, rfl⟩ rfl h1 rfl ?_
      refine x_t 325 rfl rfl rfl ?_
      refine x_g rfl ?_
      exact h

theorem bk_Mo_cut_332 {k : Nat} {pa pb : Nat} {ga : Nat → Nat} {I : pm_II} {J : pm_JJ} {Q : Option Value → pm_H → Prop} {x1 : Int32} {x2 : Int32} {x3 : Int32} {x4 : Int32} {x5 : Int32} (h : Q (some (.int (I 120 15))) (hp I J (pm_RT pa pb ga))) : Px (k + 1) 176 m_Mo_cut 332 [.ref 120, .int x1, .int x2, .int x3, .int x4, .int x5, .null, .null] [] (hp I J (pm_RT pa pb ga)) Q := by
  refine x_l 333 rfl rfl rfl ?_
  refine z_gf 336 (.int (I 120 15)) rfl ⟨rfl, rfl, rfl⟩ rfl rfl ?_
  exact x_ri rfl (Or.inl rfl) h

theorem bk_Mo_take_0 {k : Nat} {pa pb : Nat} {ga : Nat → Nat} {I : pm_II} {J : pm_JJ} {Q : Option Value → pm_H → Prop} (h : Px k 176 m_Mo_take 10 [.ref 120, .int 0] [] (hp (pm_up I 120 3 (I 120 2)) J (pm_RT pa pb ga)) Q) : Px k 176 m_Mo_take 0 [.ref 120, .null] [] (hp I J (pm_RT pa pb ga)) Q := by
  refine x_l 1 rfl rfl rfl ?_
  refine x_l 2 rfl rfl rfl ?_
  refine z_gf 5 (.int (I 120 2)) rfl ⟨rfl, rfl, rfl⟩ rfl rfl ?_
  refine z_pi 8 rfl (Or.inl rfl) rfl (fun z => by cases z) ⟨rfl, rfl, rfl⟩ rfl ?_
  refine z_k 9 0 rfl (by decide) rfl ?_
  refine x_t 10 rfl rfl rfl ?_
  exact h

theorem bk_Mo_take_10 {k : Nat} {pa pb : Nat} {ga : Nat → Nat} {I : pm_II} {J : pm_JJ} {Q : Option Value → pm_H → Prop} {x1 : Int32} (h : (((I 120 3) ≤ x1 → Q none (hp (pm_up (pm_up (pm_up I 120 2 0) 120 4 0) 120 5 (-1)) J (pm_RT pa pb ga))) ∧ (¬ ((I 120 3) ≤ x1) → vp_in x1 1600 ∧ vp_in x1 1600 ∧ Px k 176 m_Mo_take 10 [.ref 120, .int (x1 + Int32.ofInt 1)] [] (hp (pm_up I 122 ((x1 : Int32).toNatClampNeg) (I 121 ((x1 : Int32).toNatClampNeg))) J (pm_RT pa pb ga)) Q))) : Px k 176 m_Mo_take 10 [.ref 120, .int x1] [] (hp I J (pm_RT pa pb ga)) Q := by
  refine x_l 11 rfl rfl rfl ?_
  refine x_l 12 rfl rfl rfl ?_
  refine z_gf 15 (.int (I 120 3)) rfl ⟨rfl, rfl, rfl⟩ rfl rfl ?_
  refine x_b 18 rfl rfl rfl (fun c => ?_) (fun c => ?_)
  · have h := h.1 c
    refine x_l 37 rfl rfl rfl ?_
    refine z_k 38 0 rfl (by decide) rfl ?_
    refine z_pi 41 rfl (Or.inl rfl) rfl (fun z => by cases z) ⟨rfl, rfl, rfl⟩ rfl ?_
    refine x_l 42 rfl rfl rfl ?_
    refine z_k 43 0 rfl (by decide) rfl ?_
    refine z_pi 46 rfl (Or.inl rfl) rfl (fun z => by cases z) ⟨rfl, rfl, rfl⟩ rfl ?_
    refine x_l 47 rfl rfl rfl ?_
    refine z_k 48 (-1) rfl (by decide) rfl ?_
    refine z_pi 51 rfl (Or.inl rfl) rfl (fun z => by cases z) ⟨rfl, rfl, rfl⟩ rfl ?_
    exact x_rv rfl rfl h
  · have h := h.2 c
    refine x_l 19 rfl rfl rfl ?_
    refine z_gf 22 (.ref 122) rfl ⟨rfl, rfl, rfl⟩ rfl rfl ?_
    refine x_l 23 rfl rfl rfl ?_
    refine x_l 24 rfl rfl rfl ?_
    refine z_gf 27 (.ref 121) rfl ⟨rfl, rfl, rfl⟩ rfl rfl ?_
    refine x_l 28 rfl rfl rfl ?_
    have h1 := h.1
    have h := h.2
    refine z_il 29 1600 rfl ⟨rfl, rfl, rfl⟩ rfl h1 rfl ?_
    have h1 := h.1
    have h := h.2
    refine z_is 30 1600 rfl ⟨rfl, rfl, rfl⟩ rfl h1 rfl ?_
    refine x_t 33 rfl rfl rfl ?_
    refine x_g rfl ?_
    exact h

theorem bk_Mo_isWord_0 {k : Nat} {pa pb : Nat} {ga : Nat → Nat} {I : pm_II} {J : pm_JJ} {Q : Option Value → pm_H → Prop} {a1 : Nat} (h : Px (k + 3) 176 m_Mo_wordEnd 0 [.ref 120, .null] [] (hp I J (pm_RT pa pb ga)) (fun r h' => h'.1 = 176 ∧ Px (k + 4) 176 m_Mo_isWord 4 [.ref 120, .ref a1, .null, .null, .null] (r.toList ++ []) h' Q)) : Px (k + 4) 176 m_Mo_isWord 0 [.ref 120, .ref a1, .null, .null, .null] [] (hp I J (pm_RT pa pb ga)) Q := by
  refine x_l 1 rfl rfl rfl ?_
  exact z_cv (As := []) (rest := []) (b := 120) rfl at_Mo_wordEnd rfl rfl (Nat.le_of_ble_eq_true rfl) (Nat.le_of_ble_eq_true rfl) ⟨rfl, rfl, rfl⟩ (by decide) rfl h

theorem bk_Mo_isWord_4 {k : Nat} {pa pb : Nat} {ga : Nat → Nat} {I : pm_II} {J : pm_JJ} {Q : Option Value → pm_H → Prop} {a1 : Nat} {s0 : Int32} (h : (3 ≤ a1 ∧ a1 < 11) ∧ ((¬ (s0 - (I 120 4)) = (Int32.ofNat (pm_txt a1).length) → Px (k + 4) 176 m_Mo_isWord 27 [.ref 120, .ref a1, .int s0, .int 0, .int 0] [] (hp I J (pm_RT pa pb ga)) Q) ∧ (¬ (¬ (s0 - (I 120 4)) = (Int32.ofNat (pm_txt a1).length)) → Px (k + 4) 176 m_Mo_isWord 27 [.ref 120, .ref a1, .int s0, .int 1, .int 0] [] (hp I J (pm_RT pa pb ga)) Q))) : Px (k + 4) 176 m_Mo_isWord 4 [.ref 120, .ref a1, .null, .null, .null] [.int s0] (hp I J (pm_RT pa pb ga)) Q := by
  refine x_t 5 rfl rfl rfl ?_
  refine x_l 6 rfl rfl rfl ?_
  refine x_l 7 rfl rfl rfl ?_
  refine z_gf 10 (.int (I 120 4)) rfl ⟨rfl, rfl, rfl⟩ rfl rfl ?_
  refine x_s 11 rfl rfl rfl ?_
  refine x_l 12 rfl rfl rfl ?_
  have h3 := h.1
  have h := h.2
  refine z_tl 15 rfl h3 (Nat.le_of_ble_eq_true rfl) rfl ?_
  refine x_b 18 rfl rfl rfl (fun c => ?_) (fun c => ?_)
  · have h := h.1 c
    refine z_k 23 0 rfl (by decide) rfl ?_
    refine x_t 24 rfl rfl rfl ?_
    refine z_k 25 0 rfl (by decide) rfl ?_
    refine x_t 27 rfl rfl rfl ?_
    exact h
  · have h := h.2 c
    refine z_k 19 1 rfl (by decide) rfl ?_
    refine x_g rfl ?_
    refine x_t 24 rfl rfl rfl ?_
    refine z_k 25 0 rfl (by decide) rfl ?_
    refine x_t 27 rfl rfl rfl ?_
    exact h

theorem bk_Mo_isWord_27 {k : Nat} {pa pb : Nat} {ga : Nat → Nat} {I : pm_II} {J : pm_JJ} {Q : Option Value → pm_H → Prop} {a1 : Nat} {x2 : Int32} {x3 : Int32} {x4 : Int32} (h : (3 ≤ a1 ∧ a1 < 11) ∧ (((Int32.ofNat (pm_txt a1).length) ≤ x4 → Px (k + 4) 176 m_Mo_isWord 73 [.ref 120, .ref a1, .int x2, .int x3, .int x4] [] (hp I J (pm_RT pa pb ga)) Q) ∧ (¬ ((Int32.ofNat (pm_txt a1).length) ≤ x4) → ((x3 = 0 → Px (k + 4) 176 m_Mo_isWord 73 [.ref 120, .ref a1, .int x2, .int x3, .int x4] [] (hp I J (pm_RT pa pb ga)) Q) ∧ (¬ (x3 = 0) → vp_in ((I 120 4) + x4) 1600 ∧ (3 ≤ a1 ∧ a1 < 11) ∧ vp_in x4 (pm_txt a1).length ∧ ((¬ (I 122 ((((I 120 4) + x4) : Int32).toNatClampNeg)) = ((pm_txt a1).getD (x4 : Int32).toNatClampNeg 0) → Px (k + 4) 176 m_Mo_isWord 27 [.ref 120, .ref a1, .int x2, .int 0, .int (x4 + Int32.ofInt 1)] [] (hp I J (pm_RT pa pb ga)) Q) ∧ (¬ (¬ (I 122 ((((I 120 4) + x4) : Int32).toNatClampNeg)) = ((pm_txt a1).getD (x4 : Int32).toNatClampNeg 0)) → Px (k + 4) 176 m_Mo_isWord 27 [.ref 120, .ref a1, .int x2, .int 1, .int (x4 + Int32.ofInt 1)] [] (hp I J (pm_RT pa pb ga)) Q))))))) : Px (k + 4) 176 m_Mo_isWord 27 [.ref 120, .ref a1, .int x2, .int x3, .int x4] [] (hp I J (pm_RT pa pb ga)) Q := by
  refine x_l 29 rfl rfl rfl ?_
  refine x_l 30 rfl rfl rfl ?_
  have h3 := h.1
  have h := h.2
  refine z_tl 33 rfl h3 (Nat.le_of_ble_eq_true rfl) rfl ?_
  refine x_b 36 rfl rfl rfl (fun c => ?_) (fun c => ?_)
  · have h := h.1 c
    exact h
  · have h := h.2 c
    refine x_l 37 rfl rfl rfl ?_
    refine x_b 40 rfl rfl rfl (fun c => ?_) (fun c => ?_)
    · have h := h.1 c
      exact h
    · have h := h.2 c
      refine x_l 41 rfl rfl rfl ?_
      refine z_gf 44 (.ref 122) rfl ⟨rfl, rfl, rfl⟩ rfl rfl ?_
      refine x_l 45 rfl rfl rfl ?_
      refine z_gf 48 (.int (I 120 4)) rfl ⟨rfl, rfl, rfl⟩ rfl rfl ?_
      refine x_l 50 rfl rfl rfl ?_
      refine x_s 51 rfl rfl rfl ?_
      have h1 := h.1
      have h := h.2
      refine z_il 52 1600 rfl ⟨rfl, rfl, rfl⟩ rfl h1 rfl ?_
      refine x_l 53 rfl rfl rfl ?_
      refine x_l 55 rfl rfl rfl ?_
      have h3 := h.1
      have h := h.2
      have h1 := h.1
      have h := h.2
      refine z_tc 58 rfl h3 h1 (Nat.le_of_ble_eq_true rfl) rfl ?_
      refine x_b 61 rfl rfl rfl (fun c => ?_) (fun c => ?_)
      · have h := h.1 c
        refine z_k 66 0 rfl (by decide) rfl ?_
        refine x_t 67 rfl rfl rfl ?_
        refine x_t 70 rfl rfl rfl ?_
        refine x_g rfl ?_
        exact h
      · have h := h.2 c
        refine z_k 62 1 rfl (by decide) rfl ?_
        refine x_g rfl ?_
        refine x_t 67 rfl rfl rfl ?_
        refine x_t 70 rfl rfl rfl ?_
        refine x_g rfl ?_
        exact h

theorem bk_Mo_isWord_73 {k : Nat} {pa pb : Nat} {ga : Nat → Nat} {I : pm_II} {J : pm_JJ} {Q : Option Value → pm_H → Prop} {a1 : Nat} {x2 : Int32} {x3 : Int32} {x4 : Int32} (h : ((x3 = 0 → (x3 = 0 ∨ x3 = 1) ∧ Q (some (.int x3)) (hp I J (pm_RT pa pb ga))) ∧ (¬ (x3 = 0) → (x3 = 0 ∨ x3 = 1) ∧ Q (some (.int x3)) (hp (pm_up I 120 4 x2) J (pm_RT pa pb ga))))) : Px (k + 4) 176 m_Mo_isWord 73 [.ref 120, .ref a1, .int x2, .int x3, .int x4] [] (hp I J (pm_RT pa pb ga)) Q := by
  refine x_l 74 rfl rfl rfl ?_
  refine x_b 77 rfl rfl rfl (fun c => ?_) (fun c => ?_)
  · have h := h.1 c
    refine x_l 83 rfl rfl rfl ?_
    exact x_ri rfl (Or.inr ⟨rfl, h.1⟩) h.2
  · have h := h.2 c
    refine x_l 78 rfl rfl rfl ?_
    refine x_l 79 rfl rfl rfl ?_
    refine z_pi 82 rfl (Or.inl rfl) rfl (fun z => by cases z) ⟨rfl, rfl, rfl⟩ rfl ?_
    refine x_l 83 rfl rfl rfl ?_
    exact x_ri rfl (Or.inr ⟨rfl, h.1⟩) h.2

theorem bk_Mo_wordEnd_0 {k : Nat} {pa pb : Nat} {ga : Nat → Nat} {I : pm_II} {J : pm_JJ} {Q : Option Value → pm_H → Prop} (h : Px (k + 1) 176 m_Mo_wordEnd 5 [.ref 120, .int (I 120 4)] [] (hp I J (pm_RT pa pb ga)) Q) : Px (k + 1) 176 m_Mo_wordEnd 0 [.ref 120, .null] [] (hp I J (pm_RT pa pb ga)) Q := by
  refine x_l 1 rfl rfl rfl ?_
  refine z_gf 4 (.int (I 120 4)) rfl ⟨rfl, rfl, rfl⟩ rfl rfl ?_
  refine x_t 5 rfl rfl rfl ?_
  exact h

theorem bk_Mo_wordEnd_5 {k : Nat} {pa pb : Nat} {ga : Nat → Nat} {I : pm_II} {J : pm_JJ} {Q : Option Value → pm_H → Prop} {x1 : Int32} (h : (((I 120 3) ≤ x1 → Px (k + 1) 176 m_Mo_wordEnd 43 [.ref 120, .int x1] [] (hp I J (pm_RT pa pb ga)) Q) ∧ (¬ ((I 120 3) ≤ x1) → vp_in x1 1600 ∧ Px k 176 m_Mo_isSmall 0 [.int (I 122 ((x1 : Int32).toNatClampNeg))] [] (hp I J (pm_RT pa pb ga)) (fun r h' => h'.1 = 176 ∧ Px (k + 1) 176 m_Mo_wordEnd 22 [.ref 120, .int x1] (r.toList ++ []) h' Q)))) : Px (k + 1) 176 m_Mo_wordEnd 5 [.ref 120, .int x1] [] (hp I J (pm_RT pa pb ga)) Q := by
  refine x_l 6 rfl rfl rfl ?_
  refine x_l 7 rfl rfl rfl ?_
  refine z_gf 10 (.int (I 120 3)) rfl ⟨rfl, rfl, rfl⟩ rfl rfl ?_
  refine x_b 13 rfl rfl rfl (fun c => ?_) (fun c => ?_)
  · have h := h.1 c
    exact h
  · have h := h.2 c
    refine x_l 14 rfl rfl rfl ?_
    refine z_gf 17 (.ref 122) rfl ⟨rfl, rfl, rfl⟩ rfl rfl ?_
    refine x_l 18 rfl rfl rfl ?_
    have h1 := h.1
    have h := h.2
    refine z_il 19 1600 rfl ⟨rfl, rfl, rfl⟩ rfl h1 rfl ?_
    exact z_cs (As := [.int (I 122 ((x1 : Int32).toNatClampNeg))]) (rest := []) rfl at_Mo_isSmall rfl rfl (Nat.le_of_ble_eq_true rfl) (Nat.le_of_ble_eq_true rfl) rfl h

theorem bk_Mo_wordEnd_22 {k : Nat} {pa pb : Nat} {ga : Nat → Nat} {I : pm_II} {J : pm_JJ} {Q : Option Value → pm_H → Prop} {x1 : Int32} {s0 : Int32} (h : ((¬ s0 = 0 → Px (k + 1) 176 m_Mo_wordEnd 5 [.ref 120, .int (x1 + Int32.ofInt 1)] [] (hp I J (pm_RT pa pb ga)) Q) ∧ (¬ (¬ s0 = 0) → vp_in x1 1600 ∧ Px k 176 m_Mo_isDigit 0 [.int (I 122 ((x1 : Int32).toNatClampNeg))] [] (hp I J (pm_RT pa pb ga)) (fun r h' => h'.1 = 176 ∧ Px (k + 1) 176 m_Mo_wordEnd 34 [.ref 120, .int x1] (r.toList ++ []) h' Q)))) : Px (k + 1) 176 m_Mo_wordEnd 22 [.ref 120, .int x1] [.int s0] (hp I J (pm_RT pa pb ga)) Q := by
  refine x_b 25 rfl rfl rfl (fun c => ?_) (fun c => ?_)
  · have h := h.1 c
    refine x_t 40 rfl rfl rfl ?_
    refine x_g rfl ?_
    exact h
  · have h := h.2 c
    refine x_l 26 rfl rfl rfl ?_
    refine z_gf 29 (.ref 122) rfl ⟨rfl, rfl, rfl⟩ rfl rfl ?_
    refine x_l 30 rfl rfl rfl ?_
    have h1 := h.1
    have h := h.2
    refine z_il 31 1600 rfl ⟨rfl, rfl, rfl⟩ rfl h1 rfl ?_
    exact z_cs (As := [.int (I 122 ((x1 : Int32).toNatClampNeg))]) (rest := []) rfl at_Mo_isDigit rfl rfl (Nat.le_of_ble_eq_true rfl) (Nat.le_of_ble_eq_true rfl) rfl h

theorem bk_Mo_wordEnd_34 {k : Nat} {pa pb : Nat} {ga : Nat → Nat} {I : pm_II} {J : pm_JJ} {Q : Option Value → pm_H → Prop} {x1 : Int32} {s0 : Int32} (h : ((s0 = 0 → Px (k + 1) 176 m_Mo_wordEnd 43 [.ref 120, .int x1] [] (hp I J (pm_RT pa pb ga)) Q) ∧ (¬ (s0 = 0) → Px (k + 1) 176 m_Mo_wordEnd 5 [.ref 120, .int (x1 + Int32.ofInt 1)] [] (hp I J (pm_RT pa pb ga)) Q))) : Px (k + 1) 176 m_Mo_wordEnd 34 [.ref 120, .int x1] [.int s0] (hp I J (pm_RT pa pb ga)) Q := by
  refine x_b 37 rfl rfl rfl (fun c => ?_) (fun c => ?_)
  · have h := h.1 c
    exact h
  · have h := h.2 c
    refine x_t 40 rfl rfl rfl ?_
    refine x_g rfl ?_
    exact h

theorem bk_Mo_wordEnd_43 {k : Nat} {pa pb : Nat} {ga : Nat → Nat} {I : pm_II} {J : pm_JJ} {Q : Option Value → pm_H → Prop} {x1 : Int32} (h : Q (some (.int x1)) (hp I J (pm_RT pa pb ga))) : Px (k + 1) 176 m_Mo_wordEnd 43 [.ref 120, .int x1] [] (hp I J (pm_RT pa pb ga)) Q := by
  refine x_l 44 rfl rfl rfl ?_
  exact x_ri rfl (Or.inl rfl) h

theorem bk_Mo_isSmall_0 {k : Nat} {pa pb : Nat} {ga : Nat → Nat} {I : pm_II} {J : pm_JJ} {Q : Option Value → pm_H → Prop} {x0 : Int32} (h : ((x0 < 97 → Q (some (.int 0)) (hp I J (pm_RT pa pb ga))) ∧ (¬ (x0 < 97) → ((122 < x0 → Q (some (.int 0)) (hp I J (pm_RT pa pb ga))) ∧ (¬ (122 < x0) → Q (some (.int 1)) (hp I J (pm_RT pa pb ga))))))) : Px k 176 m_Mo_isSmall 0 [.int x0] [] (hp I J (pm_RT pa pb ga)) Q := by
  refine x_l 1 rfl rfl rfl ?_
  refine z_k 3 97 rfl (by decide) rfl ?_
  refine x_b 6 rfl rfl rfl (fun c => ?_) (fun c => ?_)
  · have h := h.1 c
    refine z_k 17 0 rfl (by decide) rfl ?_
    exact x_ri rfl (Or.inr ⟨rfl, Or.inl rfl⟩) h
  · have h := h.2 c
    refine x_l 7 rfl rfl rfl ?_
    refine z_k 9 122 rfl (by decide) rfl ?_
    refine x_b 12 rfl rfl rfl (fun c => ?_) (fun c => ?_)
    · have h := h.1 c
      refine z_k 17 0 rfl (by decide) rfl ?_
      exact x_ri rfl (Or.inr ⟨rfl, Or.inl rfl⟩) h
    · have h := h.2 c
      refine z_k 13 1 rfl (by decide) rfl ?_
      refine x_g rfl ?_
      exact x_ri rfl (Or.inr ⟨rfl, Or.inr rfl⟩) h

theorem bk_Mo_isDigit_0 {k : Nat} {pa pb : Nat} {ga : Nat → Nat} {I : pm_II} {J : pm_JJ} {Q : Option Value → pm_H → Prop} {x0 : Int32} (h : ((x0 < 48 → Q (some (.int 0)) (hp I J (pm_RT pa pb ga))) ∧ (¬ (x0 < 48) → ((57 < x0 → Q (some (.int 0)) (hp I J (pm_RT pa pb ga))) ∧ (¬ (57 < x0) → Q (some (.int 1)) (hp I J (pm_RT pa pb ga))))))) : Px k 176 m_Mo_isDigit 0 [.int x0] [] (hp I J (pm_RT pa pb ga)) Q := by
  refine x_l 1 rfl rfl rfl ?_
  refine z_k 3 48 rfl (by decide) rfl ?_
  refine x_b 6 rfl rfl rfl (fun c => ?_) (fun c => ?_)
  · have h := h.1 c
    refine z_k 17 0 rfl (by decide) rfl ?_
    exact x_ri rfl (Or.inr ⟨rfl, Or.inl rfl⟩) h
  · have h := h.2 c
    refine x_l 7 rfl rfl rfl ?_
    refine z_k 9 57 rfl (by decide) rfl ?_
    refine x_b 12 rfl rfl rfl (fun c => ?_) (fun c => ?_)
    · have h := h.1 c
      refine z_k 17 0 rfl (by decide) rfl ?_
      exact x_ri rfl (Or.inr ⟨rfl, Or.inl rfl⟩) h
    · have h := h.2 c
      refine z_k 13 1 rfl (by decide) rfl ?_
      refine x_g rfl ?_
      exact x_ri rfl (Or.inr ⟨rfl, Or.inr rfl⟩) h

theorem bk_Mo_fail_0 {k : Nat} {pa pb : Nat} {ga : Nat → Nat} {I : pm_II} {J : pm_JJ} {Q : Option Value → pm_H → Prop} {x1 : Int32} (h : ((0 ≤ (I 120 5) → Q none (hp I J (pm_RT pa pb ga))) ∧ (¬ (0 ≤ (I 120 5)) → Q none (hp (pm_up I 120 5 x1) J (pm_RT pa pb ga))))) : Px k 176 m_Mo_fail 0 [.ref 120, .int x1] [] (hp I J (pm_RT pa pb ga)) Q := by
  refine x_l 1 rfl rfl rfl ?_
  refine z_gf 4 (.int (I 120 5)) rfl ⟨rfl, rfl, rfl⟩ rfl rfl ?_
  refine x_b 7 rfl rfl rfl (fun c => ?_) (fun c => ?_)
  · have h := h.1 c
    exact x_rv rfl rfl h
  · have h := h.2 c
    refine x_l 8 rfl rfl rfl ?_
    refine x_l 9 rfl rfl rfl ?_
    refine z_pi 12 rfl (Or.inl rfl) rfl (fun z => by cases z) ⟨rfl, rfl, rfl⟩ rfl ?_
    exact x_rv rfl rfl h

theorem bk_Mo_behind_0 {k : Nat} {pa pb : Nat} {ga : Nat → Nat} {I : pm_II} {J : pm_JJ} {Q : Option Value → pm_H → Prop} {x1 : Int32} {x2 : Int32} (h : Px k 176 m_Mo_need 0 [.ref 120, .int 32] [] (hp I J (pm_RT pa pb ga)) (fun r h' => h'.1 = 176 ∧ Px (k + 1) 176 m_Mo_behind 6 [.ref 120, .int x1, .int x2] (r.toList ++ []) h' Q)) : Px (k + 1) 176 m_Mo_behind 0 [.ref 120, .int x1, .int x2] [] (hp I J (pm_RT pa pb ga)) Q := by
  refine x_l 1 rfl rfl rfl ?_
  refine z_k 3 32 rfl (by decide) rfl ?_
  exact z_cv (As := [.int 32]) (rest := []) (b := 120) rfl at_Mo_need rfl rfl (Nat.le_of_ble_eq_true rfl) (Nat.le_of_ble_eq_true rfl) ⟨rfl, rfl, rfl⟩ (by decide) rfl h

theorem bk_Mo_behind_6 {k : Nat} {pa pb : Nat} {ga : Nat → Nat} {I : pm_II} {J : pm_JJ} {Q : Option Value → pm_H → Prop} {x1 : Int32} {x2 : Int32} (h : Px k 176 m_Mo_told 0 [.ref 120, .int x1, .int x2, .null, .null] [] (hp I J (pm_RT pa pb ga)) (fun r h' => h'.1 = 176 ∧ Px (k + 1) 176 m_Mo_behind 12 [.ref 120, .int x1, .int x2] (r.toList ++ []) h' Q)) : Px (k + 1) 176 m_Mo_behind 6 [.ref 120, .int x1, .int x2] [] (hp I J (pm_RT pa pb ga)) Q := by
  refine x_l 7 rfl rfl rfl ?_
  refine x_l 8 rfl rfl rfl ?_
  refine x_l 9 rfl rfl rfl ?_
  exact z_cv (As := [.int x1, .int x2]) (rest := []) (b := 120) rfl at_Mo_told rfl rfl (Nat.le_of_ble_eq_true rfl) (Nat.le_of_ble_eq_true rfl) ⟨rfl, rfl, rfl⟩ (by decide) rfl h

theorem bk_Mo_behind_12 {k : Nat} {pa pb : Nat} {ga : Nat → Nat} {I : pm_II} {J : pm_JJ} {Q : Option Value → pm_H → Prop} {x1 : Int32} {x2 : Int32} {s0 : Int32} (h : Q (some (.int s0)) (hp I J (pm_RT pa pb ga))) : Px (k + 1) 176 m_Mo_behind 12 [.ref 120, .int x1, .int x2] [.int s0] (hp I J (pm_RT pa pb ga)) Q := by
  exact x_ri rfl (Or.inl rfl) h

theorem bk_Mo_need_0 {k : Nat} {pa pb : Nat} {ga : Nat → Nat} {I : pm_II} {J : pm_JJ} {Q : Option Value → pm_H → Prop} {x1 : Int32} (h : Px k 176 m_Mo_bad 0 [.ref 120] [] (hp I J (pm_RT pa pb ga)) (fun r h' => h'.1 = 176 ∧ Px (k + 1) 176 m_Mo_need 4 [.ref 120, .int x1] (r.toList ++ []) h' Q)) : Px (k + 1) 176 m_Mo_need 0 [.ref 120, .int x1] [] (hp I J (pm_RT pa pb ga)) Q := by
  refine x_l 1 rfl rfl rfl ?_
  exact z_cv (As := []) (rest := []) (b := 120) rfl at_Mo_bad rfl rfl (Nat.le_of_ble_eq_true rfl) (Nat.le_of_ble_eq_true rfl) ⟨rfl, rfl, rfl⟩ (by decide) rfl h

theorem bk_Mo_need_4 {k : Nat} {pa pb : Nat} {ga : Nat → Nat} {I : pm_II} {J : pm_JJ} {Q : Option Value → pm_H → Prop} {x1 : Int32} {s0 : Int32} (h : ((s0 = 0 → Px k 176 m_Mo_here 0 [.ref 120] [] (hp I J (pm_RT pa pb ga)) (fun r h' => h'.1 = 176 ∧ Px (k + 1) 176 m_Mo_need 12 [.ref 120, .int x1] (r.toList ++ []) h' Q)) ∧ (¬ (s0 = 0) → Q none (hp I J (pm_RT pa pb ga))))) : Px (k + 1) 176 m_Mo_need 4 [.ref 120, .int x1] [.int s0] (hp I J (pm_RT pa pb ga)) Q := by
  refine x_b 7 rfl rfl rfl (fun c => ?_) (fun c => ?_)
  · have h := h.1 c
    refine x_l 9 rfl rfl rfl ?_
    exact z_cv (As := []) (rest := []) (b := 120) rfl at_Mo_here rfl rfl (Nat.le_of_ble_eq_true rfl) (Nat.le_of_ble_eq_true rfl) ⟨rfl, rfl, rfl⟩ (by decide) rfl h
  · have h := h.2 c
    exact x_rv rfl rfl h

theorem bk_Mo_need_12 {k : Nat} {pa pb : Nat} {ga : Nat → Nat} {I : pm_II} {J : pm_JJ} {Q : Option Value → pm_H → Prop} {x1 : Int32} {s0 : Int32} (h : ((¬ s0 = x1 → Px k 176 m_Mo_fail 0 [.ref 120, .int (I 120 4)] [] (hp I J (pm_RT pa pb ga)) (fun r h' => h'.1 = 176 ∧ Px (k + 1) 176 m_Mo_need 37 [.ref 120, .int x1] (r.toList ++ []) h' Q)) ∧ (¬ (¬ s0 = x1) → Px (k + 1) 176 m_Mo_need 37 [.ref 120, .int x1] [] (hp (pm_up I 120 4 ((I 120 4) + (1 : Int32))) J (pm_RT pa pb ga)) Q))) : Px (k + 1) 176 m_Mo_need 12 [.ref 120, .int x1] [.int s0] (hp I J (pm_RT pa pb ga)) Q := by
  refine x_l 13 rfl rfl rfl ?_
  refine x_b 16 rfl rfl rfl (fun c => ?_) (fun c => ?_)
  · have h := h.1 c
    refine x_l 30 rfl rfl rfl ?_
    refine x_l 31 rfl rfl rfl ?_
    refine z_gf 34 (.int (I 120 4)) rfl ⟨rfl, rfl, rfl⟩ rfl rfl ?_
    exact z_cv (As := [.int (I 120 4)]) (rest := []) (b := 120) rfl at_Mo_fail rfl rfl (Nat.le_of_ble_eq_true rfl) (Nat.le_of_ble_eq_true rfl) ⟨rfl, rfl, rfl⟩ (by decide) rfl h
  · have h := h.2 c
    refine x_l 17 rfl rfl rfl ?_
    refine x_s 18 rfl rfl rfl ?_
    refine z_gf 21 (.int (I 120 4)) rfl ⟨rfl, rfl, rfl⟩ rfl rfl ?_
    refine z_k 22 1 rfl (by decide) rfl ?_
    refine x_s 23 rfl rfl rfl ?_
    refine z_pi 26 rfl (Or.inl rfl) rfl (fun z => by cases z) ⟨rfl, rfl, rfl⟩ rfl ?_
    refine x_g rfl ?_
    exact h

theorem bk_Mo_need_37 {k : Nat} {pa pb : Nat} {ga : Nat → Nat} {I : pm_II} {J : pm_JJ} {Q : Option Value → pm_H → Prop} {x1 : Int32} (h : Q none (hp I J (pm_RT pa pb ga))) : Px (k + 1) 176 m_Mo_need 37 [.ref 120, .int x1] [] (hp I J (pm_RT pa pb ga)) Q := by
  exact x_rv rfl rfl h

theorem bk_Mo_bad_0 {k : Nat} {pa pb : Nat} {ga : Nat → Nat} {I : pm_II} {J : pm_JJ} {Q : Option Value → pm_H → Prop} (h : (((I 120 5) < 0 → Q (some (.int 0)) (hp I J (pm_RT pa pb ga))) ∧ (¬ ((I 120 5) < 0) → Q (some (.int 1)) (hp I J (pm_RT pa pb ga))))) : Px k 176 m_Mo_bad 0 [.ref 120] [] (hp I J (pm_RT pa pb ga)) Q := by
  refine x_l 1 rfl rfl rfl ?_
  refine z_gf 4 (.int (I 120 5)) rfl ⟨rfl, rfl, rfl⟩ rfl rfl ?_
  refine x_b 7 rfl rfl rfl (fun c => ?_) (fun c => ?_)
  · have h := h.1 c
    refine z_k 12 0 rfl (by decide) rfl ?_
    exact x_ri rfl (Or.inr ⟨rfl, Or.inl rfl⟩) h
  · have h := h.2 c
    refine z_k 8 1 rfl (by decide) rfl ?_
    refine x_g rfl ?_
    exact x_ri rfl (Or.inr ⟨rfl, Or.inr rfl⟩) h

theorem bk_Mo_here_0 {k : Nat} {pa pb : Nat} {ga : Nat → Nat} {I : pm_II} {J : pm_JJ} {Q : Option Value → pm_H → Prop} (h : (((I 120 3) ≤ (I 120 4) → Q (some (.int (-1))) (hp I J (pm_RT pa pb ga))) ∧ (¬ ((I 120 3) ≤ (I 120 4)) → vp_in (I 120 4) 1600 ∧ Q (some (.int (I 122 (((I 120 4) : Int32).toNatClampNeg)))) (hp I J (pm_RT pa pb ga))))) : Px k 176 m_Mo_here 0 [.ref 120] [] (hp I J (pm_RT pa pb ga)) Q := by
  refine x_l 1 rfl rfl rfl ?_
  refine z_gf 4 (.int (I 120 4)) rfl ⟨rfl, rfl, rfl⟩ rfl rfl ?_
  refine x_l 5 rfl rfl rfl ?_
  refine z_gf 8 (.int (I 120 3)) rfl ⟨rfl, rfl, rfl⟩ rfl rfl ?_
  refine x_b 11 rfl rfl rfl (fun c => ?_) (fun c => ?_)
  · have h := h.1 c
    refine z_k 24 (-1) rfl (by decide) rfl ?_
    exact x_ri rfl (Or.inl rfl) h
  · have h := h.2 c
    refine x_l 12 rfl rfl rfl ?_
    refine z_gf 15 (.ref 122) rfl ⟨rfl, rfl, rfl⟩ rfl rfl ?_
    refine x_l 16 rfl rfl rfl ?_
    refine z_gf 19 (.int (I 120 4)) rfl ⟨rfl, rfl, rfl⟩ rfl rfl ?_
    have h1 := h.1
    have h := h.2
    refine z_il 20 1600 rfl ⟨rfl, rfl, rfl⟩ rfl h1 rfl ?_
    refine x_g rfl ?_
    exact x_ri rfl (Or.inl rfl) h

theorem bk_Mo_told_0 {k : Nat} {pa pb : Nat} {ga : Nat → Nat} {I : pm_II} {J : pm_JJ} {Q : Option Value → pm_H → Prop} {x1 : Int32} {x2 : Int32} (h : Px k 176 m_Mo_bad 0 [.ref 120] [] (hp I J (pm_RT pa pb ga)) (fun r h' => h'.1 = 176 ∧ Px (k + 1) 176 m_Mo_told 4 [.ref 120, .int x1, .int x2, .null, .null] (r.toList ++ []) h' Q)) : Px (k + 1) 176 m_Mo_told 0 [.ref 120, .int x1, .int x2, .null, .null] [] (hp I J (pm_RT pa pb ga)) Q := by
  refine x_l 1 rfl rfl rfl ?_
  exact z_cv (As := []) (rest := []) (b := 120) rfl at_Mo_bad rfl rfl (Nat.le_of_ble_eq_true rfl) (Nat.le_of_ble_eq_true rfl) ⟨rfl, rfl, rfl⟩ (by decide) rfl h

theorem bk_Mo_told_4 {k : Nat} {pa pb : Nat} {ga : Nat → Nat} {I : pm_II} {J : pm_JJ} {Q : Option Value → pm_H → Prop} {x1 : Int32} {x2 : Int32} {s0 : Int32} (h : ((s0 = 0 → Px k 176 m_Mo_here 0 [.ref 120] [] (hp I J (pm_RT pa pb ga)) (fun r h' => h'.1 = 176 ∧ Px (k + 1) 176 m_Mo_told 21 [.ref 120, .int x1, .int x2, .int (I 120 4), .int 0] (r.toList ++ []) h' Q)) ∧ (¬ (s0 = 0) → Q (some (.int 0)) (hp I J (pm_RT pa pb ga))))) : Px (k + 1) 176 m_Mo_told 4 [.ref 120, .int x1, .int x2, .null, .null] [.int s0] (hp I J (pm_RT pa pb ga)) Q := by
  refine x_b 7 rfl rfl rfl (fun c => ?_) (fun c => ?_)
  · have h := h.1 c
    refine x_l 10 rfl rfl rfl ?_
    refine z_gf 13 (.int (I 120 4)) rfl ⟨rfl, rfl, rfl⟩ rfl rfl ?_
    refine x_t 14 rfl rfl rfl ?_
    refine z_k 15 0 rfl (by decide) rfl ?_
    refine x_t 17 rfl rfl rfl ?_
    refine x_l 18 rfl rfl rfl ?_
    exact z_cv (As := []) (rest := []) (b := 120) rfl at_Mo_here rfl rfl (Nat.le_of_ble_eq_true rfl) (Nat.le_of_ble_eq_true rfl) ⟨rfl, rfl, rfl⟩ (by decide) rfl h
  · have h := h.2 c
    refine z_k 8 0 rfl (by decide) rfl ?_
    exact x_ri rfl (Or.inl rfl) h

theorem bk_Mo_told_21 {k : Nat} {pa pb : Nat} {ga : Nat → Nat} {I : pm_II} {J : pm_JJ} {Q : Option Value → pm_H → Prop} {x1 : Int32} {x2 : Int32} {x3 : Int32} {x4 : Int32} {s0 : Int32} (h : Px k 176 m_Mo_isDigit 0 [.int s0] [] (hp I J (pm_RT pa pb ga)) (fun r h' => h'.1 = 176 ∧ Px (k + 1) 176 m_Mo_told 24 [.ref 120, .int x1, .int x2, .int x3, .int x4] (r.toList ++ []) h' Q)) : Px (k + 1) 176 m_Mo_told 21 [.ref 120, .int x1, .int x2, .int x3, .int x4] [.int s0] (hp I J (pm_RT pa pb ga)) Q := by
  exact z_cs (As := [.int s0]) (rest := []) rfl at_Mo_isDigit rfl rfl (Nat.le_of_ble_eq_true rfl) (Nat.le_of_ble_eq_true rfl) rfl h

theorem bk_Mo_told_24 {k : Nat} {pa pb : Nat} {ga : Nat → Nat} {I : pm_II} {J : pm_JJ} {Q : Option Value → pm_H → Prop} {x1 : Int32} {x2 : Int32} {x3 : Int32} {x4 : Int32} {s0 : Int32} (h : ((¬ s0 = 0 → Px (k + 1) 176 m_Mo_told 35 [.ref 120, .int x1, .int x2, .int x3, .int x4] [] (hp I J (pm_RT pa pb ga)) Q) ∧ (¬ (¬ s0 = 0) → Px k 176 m_Mo_fail 0 [.ref 120, .int (I 120 4)] [] (hp I J (pm_RT pa pb ga)) (fun r h' => h'.1 = 176 ∧ Px (k + 1) 176 m_Mo_told 35 [.ref 120, .int x1, .int x2, .int x3, .int x4] (r.toList ++ []) h' Q)))) : Px (k + 1) 176 m_Mo_told 24 [.ref 120, .int x1, .int x2, .int x3, .int x4] [.int s0] (hp I J (pm_RT pa pb ga)) Q := by
  refine x_b 27 rfl rfl rfl (fun c => ?_) (fun c => ?_)
  · have h := h.1 c
    exact h
  · have h := h.2 c
    refine x_l 28 rfl rfl rfl ?_
    refine x_l 29 rfl rfl rfl ?_
    refine z_gf 32 (.int (I 120 4)) rfl ⟨rfl, rfl, rfl⟩ rfl rfl ?_
    exact z_cv (As := [.int (I 120 4)]) (rest := []) (b := 120) rfl at_Mo_fail rfl rfl (Nat.le_of_ble_eq_true rfl) (Nat.le_of_ble_eq_true rfl) ⟨rfl, rfl, rfl⟩ (by decide) rfl h

theorem bk_Mo_told_35 {k : Nat} {pa pb : Nat} {ga : Nat → Nat} {I : pm_II} {J : pm_JJ} {Q : Option Value → pm_H → Prop} {x1 : Int32} {x2 : Int32} {x3 : Int32} {x4 : Int32} (h : Px k 176 m_Mo_bad 0 [.ref 120] [] (hp I J (pm_RT pa pb ga)) (fun r h' => h'.1 = 176 ∧ Px (k + 1) 176 m_Mo_told 39 [.ref 120, .int x1, .int x2, .int x3, .int x4] (r.toList ++ []) h' Q)) : Px (k + 1) 176 m_Mo_told 35 [.ref 120, .int x1, .int x2, .int x3, .int x4] [] (hp I J (pm_RT pa pb ga)) Q := by
  refine x_l 36 rfl rfl rfl ?_
  exact z_cv (As := []) (rest := []) (b := 120) rfl at_Mo_bad rfl rfl (Nat.le_of_ble_eq_true rfl) (Nat.le_of_ble_eq_true rfl) ⟨rfl, rfl, rfl⟩ (by decide) rfl h

theorem bk_Mo_told_39 {k : Nat} {pa pb : Nat} {ga : Nat → Nat} {I : pm_II} {J : pm_JJ} {Q : Option Value → pm_H → Prop} {x1 : Int32} {x2 : Int32} {x3 : Int32} {x4 : Int32} {s0 : Int32} (h : ((¬ s0 = 0 → Px (k + 1) 176 m_Mo_told 121 [.ref 120, .int x1, .int x2, .int x3, .int x4] [] (hp I J (pm_RT pa pb ga)) Q) ∧ (¬ (¬ s0 = 0) → Px k 176 m_Mo_here 0 [.ref 120] [] (hp I J (pm_RT pa pb ga)) (fun r h' => h'.1 = 176 ∧ Px (k + 1) 176 m_Mo_told 46 [.ref 120, .int x1, .int x2, .int x3, .int x4] (r.toList ++ []) h' Q)))) : Px (k + 1) 176 m_Mo_told 39 [.ref 120, .int x1, .int x2, .int x3, .int x4] [.int s0] (hp I J (pm_RT pa pb ga)) Q := by
  refine x_b 42 rfl rfl rfl (fun c => ?_) (fun c => ?_)
  · have h := h.1 c
    exact h
  · have h := h.2 c
    refine x_l 43 rfl rfl rfl ?_
    exact z_cv (As := []) (rest := []) (b := 120) rfl at_Mo_here rfl rfl (Nat.le_of_ble_eq_true rfl) (Nat.le_of_ble_eq_true rfl) ⟨rfl, rfl, rfl⟩ (by decide) rfl h

theorem bk_Mo_told_46 {k : Nat} {pa pb : Nat} {ga : Nat → Nat} {I : pm_II} {J : pm_JJ} {Q : Option Value → pm_H → Prop} {x1 : Int32} {x2 : Int32} {x3 : Int32} {x4 : Int32} {s0 : Int32} (h : Px k 176 m_Mo_isDigit 0 [.int s0] [] (hp I J (pm_RT pa pb ga)) (fun r h' => h'.1 = 176 ∧ Px (k + 1) 176 m_Mo_told 49 [.ref 120, .int x1, .int x2, .int x3, .int x4] (r.toList ++ []) h' Q)) : Px (k + 1) 176 m_Mo_told 46 [.ref 120, .int x1, .int x2, .int x3, .int x4] [.int s0] (hp I J (pm_RT pa pb ga)) Q := by
  exact z_cs (As := [.int s0]) (rest := []) rfl at_Mo_isDigit rfl rfl (Nat.le_of_ble_eq_true rfl) (Nat.le_of_ble_eq_true rfl) rfl h

theorem bk_Mo_told_49 {k : Nat} {pa pb : Nat} {ga : Nat → Nat} {I : pm_II} {J : pm_JJ} {Q : Option Value → pm_H → Prop} {x1 : Int32} {x2 : Int32} {x3 : Int32} {x4 : Int32} {s0 : Int32} (h : ((s0 = 0 → Px (k + 1) 176 m_Mo_told 121 [.ref 120, .int x1, .int x2, .int x3, .int x4] [] (hp I J (pm_RT pa pb ga)) Q) ∧ (¬ (s0 = 0) → ((((I 120 4) - x3) = 6 → Px k 176 m_Mo_fail 0 [.ref 120, .int (I 120 4)] [] (hp I J (pm_RT pa pb ga)) (fun r h' => h'.1 = 176 ∧ Px (k + 1) 176 m_Mo_told 90 [.ref 120, .int x1, .int x2, .int x3, .int x4] (r.toList ++ []) h' Q)) ∧ (¬ (((I 120 4) - x3) = 6) → (((I 120 4) ≤ x3 → Px k 176 m_Mo_here 0 [.ref 120] [] (hp I J (pm_RT pa pb ga)) (fun r h' => h'.1 = 176 ∧ Px (k + 1) 176 m_Mo_told 102 [.ref 120, .int x1, .int x2, .int x3, .int x4] (r.toList ++ [.int ((10 : Int32) * x4)]) h' Q)) ∧ (¬ ((I 120 4) ≤ x3) → vp_in x3 1600 ∧ ((¬ (I 122 ((x3 : Int32).toNatClampNeg)) = 48 → Px k 176 m_Mo_here 0 [.ref 120] [] (hp I J (pm_RT pa pb ga)) (fun r h' => h'.1 = 176 ∧ Px (k + 1) 176 m_Mo_told 102 [.ref 120, .int x1, .int x2, .int x3, .int x4] (r.toList ++ [.int ((10 : Int32) * x4)]) h' Q)) ∧ (¬ (¬ (I 122 ((x3 : Int32).toNatClampNeg)) = 48) → Px k 176 m_Mo_fail 0 [.ref 120, .int (I 120 4)] [] (hp I J (pm_RT pa pb ga)) (fun r h' => h'.1 = 176 ∧ Px (k + 1) 176 m_Mo_told 90 [.ref 120, .int x1, .int x2, .int x3, .int x4] (r.toList ++ []) h' Q)))))))))) : Px (k + 1) 176 m_Mo_told 49 [.ref 120, .int x1, .int x2, .int x3, .int x4] [.int s0] (hp I J (pm_RT pa pb ga)) Q := by
  refine x_b 52 rfl rfl rfl (fun c => ?_) (fun c => ?_)
  · have h := h.1 c
    exact h
  · have h := h.2 c
    refine x_l 53 rfl rfl rfl ?_
    refine z_gf 56 (.int (I 120 4)) rfl ⟨rfl, rfl, rfl⟩ rfl rfl ?_
    refine x_l 57 rfl rfl rfl ?_
    refine x_s 58 rfl rfl rfl ?_
    refine z_k 60 6 rfl (by decide) rfl ?_
    refine x_b 63 rfl rfl rfl (fun c => ?_) (fun c => ?_)
    · have h := h.1 c
      refine x_l 83 rfl rfl rfl ?_
      refine x_l 84 rfl rfl rfl ?_
      refine z_gf 87 (.int (I 120 4)) rfl ⟨rfl, rfl, rfl⟩ rfl rfl ?_
      exact z_cv (As := [.int (I 120 4)]) (rest := []) (b := 120) rfl at_Mo_fail rfl rfl (Nat.le_of_ble_eq_true rfl) (Nat.le_of_ble_eq_true rfl) ⟨rfl, rfl, rfl⟩ (by decide) rfl h
    · have h := h.2 c
      refine x_l 64 rfl rfl rfl ?_
      refine z_gf 67 (.int (I 120 4)) rfl ⟨rfl, rfl, rfl⟩ rfl rfl ?_
      refine x_l 68 rfl rfl rfl ?_
      refine x_b 71 rfl rfl rfl (fun c => ?_) (fun c => ?_)
      · have h := h.1 c
        refine z_k 95 10 rfl (by decide) rfl ?_
        refine x_l 97 rfl rfl rfl ?_
        refine x_s 98 rfl rfl rfl ?_
        refine x_l 99 rfl rfl rfl ?_
        exact z_cv (As := []) (rest := [.int ((10 : Int32) * x4)]) (b := 120) rfl at_Mo_here rfl rfl (Nat.le_of_ble_eq_true rfl) (Nat.le_of_ble_eq_true rfl) ⟨rfl, rfl, rfl⟩ (by decide) rfl h
      · have h := h.2 c
        refine x_l 72 rfl rfl rfl ?_
        refine z_gf 75 (.ref 122) rfl ⟨rfl, rfl, rfl⟩ rfl rfl ?_
        refine x_l 76 rfl rfl rfl ?_
        have h1 := h.1
        have h := h.2
        refine z_il 77 1600 rfl ⟨rfl, rfl, rfl⟩ rfl h1 rfl ?_
        refine z_k 79 48 rfl (by decide) rfl ?_
        refine x_b 82 rfl rfl rfl (fun c => ?_) (fun c => ?_)
        · have h := h.1 c
          refine z_k 95 10 rfl (by decide) rfl ?_
          refine x_l 97 rfl rfl rfl ?_
          refine x_s 98 rfl rfl rfl ?_
          refine x_l 99 rfl rfl rfl ?_
          exact z_cv (As := []) (rest := [.int ((10 : Int32) * x4)]) (b := 120) rfl at_Mo_here rfl rfl (Nat.le_of_ble_eq_true rfl) (Nat.le_of_ble_eq_true rfl) ⟨rfl, rfl, rfl⟩ (by decide) rfl h
        · have h := h.2 c
          refine x_l 83 rfl rfl rfl ?_
          refine x_l 84 rfl rfl rfl ?_
          refine z_gf 87 (.int (I 120 4)) rfl ⟨rfl, rfl, rfl⟩ rfl rfl ?_
          exact z_cv (As := [.int (I 120 4)]) (rest := []) (b := 120) rfl at_Mo_fail rfl rfl (Nat.le_of_ble_eq_true rfl) (Nat.le_of_ble_eq_true rfl) ⟨rfl, rfl, rfl⟩ (by decide) rfl h

theorem bk_Mo_told_90 {k : Nat} {pa pb : Nat} {ga : Nat → Nat} {I : pm_II} {J : pm_JJ} {Q : Option Value → pm_H → Prop} {x1 : Int32} {x2 : Int32} {x3 : Int32} {x4 : Int32} (h : Px (k + 1) 176 m_Mo_told 35 [.ref 120, .int x1, .int x2, .int x3, .int x4] [] (hp I J (pm_RT pa pb ga)) Q) : Px (k + 1) 176 m_Mo_told 90 [.ref 120, .int x1, .int x2, .int x3, .int x4] [] (hp I J (pm_RT pa pb ga)) Q := by
  refine x_g rfl ?_
  exact h

theorem bk_Mo_told_102 {k : Nat} {pa pb : Nat} {ga : Nat → Nat} {I : pm_II} {J : pm_JJ} {Q : Option Value → pm_H → Prop} {x1 : Int32} {x2 : Int32} {x3 : Int32} {x4 : Int32} {s0 : Int32} {s1 : Int32} (h : Px (k + 1) 176 m_Mo_told 35 [.ref 120, .int x1, .int x2, .int x3, .int ((s0 + s1) - (48 : Int32))] [] (hp (pm_up I 120 4 ((I 120 4) + (1 : Int32))) J (pm_RT pa pb ga)) Q) : Px (k + 1) 176 m_Mo_told 102 [.ref 120, .int x1, .int x2, .int x3, .int x4] [.int s1, .int s0] (hp I J (pm_RT pa pb ga)) Q := by
  refine x_s 103 rfl rfl rfl ?_
  refine z_k 105 48 rfl (by decide) rfl ?_
  refine x_s 106 rfl rfl rfl ?_
  refine x_t 108 rfl rfl rfl ?_
  refine x_l 109 rfl rfl rfl ?_
  refine x_s 110 rfl rfl rfl ?_
  refine z_gf 113 (.int (I 120 4)) rfl ⟨rfl, rfl, rfl⟩ rfl rfl ?_
  refine z_k 114 1 rfl (by decide) rfl ?_
  refine x_s 115 rfl rfl rfl ?_
  refine z_pi 118 rfl (Or.inl rfl) rfl (fun z => by cases z) ⟨rfl, rfl, rfl⟩ rfl ?_
  refine x_g rfl ?_
  exact h

theorem bk_Mo_told_121 {k : Nat} {pa pb : Nat} {ga : Nat → Nat} {I : pm_II} {J : pm_JJ} {Q : Option Value → pm_H → Prop} {x1 : Int32} {x2 : Int32} {x3 : Int32} {x4 : Int32} (h : Px k 176 m_Mo_bad 0 [.ref 120] [] (hp I J (pm_RT pa pb ga)) (fun r h' => h'.1 = 176 ∧ Px (k + 1) 176 m_Mo_told 125 [.ref 120, .int x1, .int x2, .int x3, .int x4] (r.toList ++ []) h' Q)) : Px (k + 1) 176 m_Mo_told 121 [.ref 120, .int x1, .int x2, .int x3, .int x4] [] (hp I J (pm_RT pa pb ga)) Q := by
  refine x_l 122 rfl rfl rfl ?_
  exact z_cv (As := []) (rest := []) (b := 120) rfl at_Mo_bad rfl rfl (Nat.le_of_ble_eq_true rfl) (Nat.le_of_ble_eq_true rfl) ⟨rfl, rfl, rfl⟩ (by decide) rfl h

theorem bk_Mo_told_125 {k : Nat} {pa pb : Nat} {ga : Nat → Nat} {I : pm_II} {J : pm_JJ} {Q : Option Value → pm_H → Prop} {x1 : Int32} {x2 : Int32} {x3 : Int32} {x4 : Int32} {s0 : Int32} (h : ((¬ s0 = 0 → Px (k + 1) 176 m_Mo_told 143 [.ref 120, .int x1, .int x2, .int x3, .int x4] [] (hp I J (pm_RT pa pb ga)) Q) ∧ (¬ (¬ s0 = 0) → Px k 176 m_Mo_is 0 [.int x4, .int x1, .int x2] [] (hp I J (pm_RT pa pb ga)) (fun r h' => h'.1 = 176 ∧ Px (k + 1) 176 m_Mo_told 135 [.ref 120, .int x1, .int x2, .int x3, .int x4] (r.toList ++ []) h' Q)))) : Px (k + 1) 176 m_Mo_told 125 [.ref 120, .int x1, .int x2, .int x3, .int x4] [.int s0] (hp I J (pm_RT pa pb ga)) Q := by
  refine x_b 128 rfl rfl rfl (fun c => ?_) (fun c => ?_)
  · have h := h.1 c
    exact h
  · have h := h.2 c
    refine x_l 130 rfl rfl rfl ?_
    refine x_l 131 rfl rfl rfl ?_
    refine x_l 132 rfl rfl rfl ?_
    exact z_cs (As := [.int x4, .int x1, .int x2]) (rest := []) rfl at_Mo_is rfl rfl (Nat.le_of_ble_eq_true rfl) (Nat.le_of_ble_eq_true rfl) rfl h

theorem bk_Mo_told_135 {k : Nat} {pa pb : Nat} {ga : Nat → Nat} {I : pm_II} {J : pm_JJ} {Q : Option Value → pm_H → Prop} {x1 : Int32} {x2 : Int32} {x3 : Int32} {x4 : Int32} {s0 : Int32} (h : ((¬ s0 = 0 → Px (k + 1) 176 m_Mo_told 143 [.ref 120, .int x1, .int x2, .int x3, .int x4] [] (hp I J (pm_RT pa pb ga)) Q) ∧ (¬ (¬ s0 = 0) → Px k 176 m_Mo_fail 0 [.ref 120, .int x3] [] (hp I J (pm_RT pa pb ga)) (fun r h' => h'.1 = 176 ∧ Px (k + 1) 176 m_Mo_told 143 [.ref 120, .int x1, .int x2, .int x3, .int x4] (r.toList ++ []) h' Q)))) : Px (k + 1) 176 m_Mo_told 135 [.ref 120, .int x1, .int x2, .int x3, .int x4] [.int s0] (hp I J (pm_RT pa pb ga)) Q := by
  refine x_b 138 rfl rfl rfl (fun c => ?_) (fun c => ?_)
  · have h := h.1 c
    exact h
  · have h := h.2 c
    refine x_l 139 rfl rfl rfl ?_
    refine x_l 140 rfl rfl rfl ?_
    exact z_cv (As := [.int x3]) (rest := []) (b := 120) rfl at_Mo_fail rfl rfl (Nat.le_of_ble_eq_true rfl) (Nat.le_of_ble_eq_true rfl) ⟨rfl, rfl, rfl⟩ (by decide) rfl h

theorem bk_Mo_told_143 {k : Nat} {pa pb : Nat} {ga : Nat → Nat} {I : pm_II} {J : pm_JJ} {Q : Option Value → pm_H → Prop} {x1 : Int32} {x2 : Int32} {x3 : Int32} {x4 : Int32} (h : Q (some (.int x4)) (hp I J (pm_RT pa pb ga))) : Px (k + 1) 176 m_Mo_told 143 [.ref 120, .int x1, .int x2, .int x3, .int x4] [] (hp I J (pm_RT pa pb ga)) Q := by
  refine x_l 145 rfl rfl rfl ?_
  exact x_ri rfl (Or.inl rfl) h

theorem bk_Mo_is_0 {k : Nat} {pa pb : Nat} {ga : Nat → Nat} {I : pm_II} {J : pm_JJ} {Q : Option Value → pm_H → Prop} {x0 : Int32} {x1 : Int32} {x2 : Int32} (h : ((x0 < x1 → Q (some (.int 0)) (hp I J (pm_RT pa pb ga))) ∧ (¬ (x0 < x1) → ((x2 < x0 → Q (some (.int 0)) (hp I J (pm_RT pa pb ga))) ∧ (¬ (x2 < x0) → Q (some (.int 1)) (hp I J (pm_RT pa pb ga))))))) : Px k 176 m_Mo_is 0 [.int x0, .int x1, .int x2] [] (hp I J (pm_RT pa pb ga)) Q := by
  refine x_l 1 rfl rfl rfl ?_
  refine x_l 2 rfl rfl rfl ?_
  refine x_b 5 rfl rfl rfl (fun c => ?_) (fun c => ?_)
  · have h := h.1 c
    refine z_k 15 0 rfl (by decide) rfl ?_
    exact x_ri rfl (Or.inr ⟨rfl, Or.inl rfl⟩) h
  · have h := h.2 c
    refine x_l 6 rfl rfl rfl ?_
    refine x_l 7 rfl rfl rfl ?_
    refine x_b 10 rfl rfl rfl (fun c => ?_) (fun c => ?_)
    · have h := h.1 c
      refine z_k 15 0 rfl (by decide) rfl ?_
      exact x_ri rfl (Or.inr ⟨rfl, Or.inl rfl⟩) h
    · have h := h.2 c
      refine z_k 11 1 rfl (by decide) rfl ?_
      refine x_g rfl ?_
      exact x_ri rfl (Or.inr ⟨rfl, Or.inr rfl⟩) h

theorem bk_Mo_planned_0 {k : Nat} {pa pb : Nat} {ga : Nat → Nat} {I : pm_II} {J : pm_JJ} {Q : Option Value → pm_H → Prop} (h : Px (k + 1) 176 m_Mo_planned 4 [.ref 120, .int 0, .int 0, .null, .null, .null] [] (hp I J (pm_RT pa pb ga)) Q) : Px (k + 1) 176 m_Mo_planned 0 [.ref 120, .null, .null, .null, .null, .null] [] (hp I J (pm_RT pa pb ga)) Q := by
  refine z_k 1 0 rfl (by decide) rfl ?_
  refine x_t 2 rfl rfl rfl ?_
  refine z_k 3 0 rfl (by decide) rfl ?_
  refine x_t 4 rfl rfl rfl ?_
  exact h

theorem bk_Mo_planned_4 {k : Nat} {pa pb : Nat} {ga : Nat → Nat} {I : pm_II} {J : pm_JJ} {Q : Option Value → pm_H → Prop} {x1 : Int32} {x2 : Int32} (h : ((4 ≤ x2 → Px (k + 1) 176 m_Mo_planned 31 [.ref 120, .int x1, .int 0, .int 1, .null, .null] [] (hp I J (pm_RT pa pb ga)) Q) ∧ (¬ (4 ≤ x2) → vp_in x2 4 ∧ Px (k + 1) 176 m_Mo_planned 4 [.ref 120, .int (((10 : Int32) * x1) + (I 124 ((x2 : Int32).toNatClampNeg))), .int (x2 + Int32.ofInt 1), .null, .null, .null] [] (hp I J (pm_RT pa pb ga)) Q))) : Px (k + 1) 176 m_Mo_planned 4 [.ref 120, .int x1, .int x2, .null, .null, .null] [] (hp I J (pm_RT pa pb ga)) Q := by
  refine x_l 5 rfl rfl rfl ?_
  refine z_k 6 4 rfl (by decide) rfl ?_
  refine x_b 9 rfl rfl rfl (fun c => ?_) (fun c => ?_)
  · have h := h.1 c
    refine z_k 28 0 rfl (by decide) rfl ?_
    refine x_t 29 rfl rfl rfl ?_
    refine z_k 30 1 rfl (by decide) rfl ?_
    refine x_t 31 rfl rfl rfl ?_
    exact h
  · have h := h.2 c
    refine z_k 11 10 rfl (by decide) rfl ?_
    refine x_l 12 rfl rfl rfl ?_
    refine x_s 13 rfl rfl rfl ?_
    refine x_l 14 rfl rfl rfl ?_
    refine z_gf 17 (.ref 124) rfl ⟨rfl, rfl, rfl⟩ rfl rfl ?_
    refine x_l 18 rfl rfl rfl ?_
    have h1 := h.1
    have h := h.2
    refine z_il 19 4 rfl ⟨rfl, rfl, rfl⟩ rfl h1 rfl ?_
    refine x_s 20 rfl rfl rfl ?_
    refine x_t 21 rfl rfl rfl ?_
    refine x_t 24 rfl rfl rfl ?_
    refine x_g rfl ?_
    exact h

theorem bk_Mo_planned_31 {k : Nat} {pa pb : Nat} {ga : Nat → Nat} {I : pm_II} {J : pm_JJ} {Q : Option Value → pm_H → Prop} {x1 : Int32} {x2 : Int32} {x3 : Int32} (h : ((x1 < x3 → Px (k + 1) 176 m_Mo_planned 66 [.ref 120, .int x1, .int x2, .int 0, .null, .null] [] (hp I J (pm_RT pa pb ga)) Q) ∧ (¬ (x1 < x3) → Px k 176 m_Mo_isPattern 0 [.ref 120, .int x3, .int x1, .null, .null, .null] [] (hp I J (pm_RT pa pb ga)) (fun r h' => h'.1 = 176 ∧ Px (k + 1) 176 m_Mo_planned 42 [.ref 120, .int x1, .int x2, .int x3, .null, .null] (r.toList ++ []) h' Q)))) : Px (k + 1) 176 m_Mo_planned 31 [.ref 120, .int x1, .int x2, .int x3, .null, .null] [] (hp I J (pm_RT pa pb ga)) Q := by
  refine x_l 32 rfl rfl rfl ?_
  refine x_l 33 rfl rfl rfl ?_
  refine x_b 36 rfl rfl rfl (fun c => ?_) (fun c => ?_)
  · have h := h.1 c
    refine z_k 65 0 rfl (by decide) rfl ?_
    refine x_t 66 rfl rfl rfl ?_
    exact h
  · have h := h.2 c
    refine x_l 37 rfl rfl rfl ?_
    refine x_l 38 rfl rfl rfl ?_
    refine x_l 39 rfl rfl rfl ?_
    exact z_cv (As := [.int x3, .int x1]) (rest := []) (b := 120) rfl at_Mo_isPattern rfl rfl (Nat.le_of_ble_eq_true rfl) (Nat.le_of_ble_eq_true rfl) ⟨rfl, rfl, rfl⟩ (by decide) rfl h

theorem bk_Mo_planned_42 {k : Nat} {pa pb : Nat} {ga : Nat → Nat} {I : pm_II} {J : pm_JJ} {Q : Option Value → pm_H → Prop} {x1 : Int32} {x2 : Int32} {x3 : Int32} {s0 : Int32} (h : ((¬ s0 = 0 → vp_in x2 10000 ∧ Px (k + 1) 176 m_Mo_planned 31 [.ref 120, .int x1, .int (x2 + Int32.ofInt 1), .int (x3 + Int32.ofInt 1), .null, .null] [] (hp (pm_up I 130 ((x2 : Int32).toNatClampNeg) x3) J (pm_RT pa pb ga)) Q) ∧ (¬ (¬ s0 = 0) → Px (k + 1) 176 m_Mo_planned 31 [.ref 120, .int x1, .int x2, .int (x3 + Int32.ofInt 1), .null, .null] [] (hp I J (pm_RT pa pb ga)) Q))) : Px (k + 1) 176 m_Mo_planned 42 [.ref 120, .int x1, .int x2, .int x3, .null, .null] [.int s0] (hp I J (pm_RT pa pb ga)) Q := by
  refine x_b 45 rfl rfl rfl (fun c => ?_) (fun c => ?_)
  · have h := h.1 c
    refine x_l 49 rfl rfl rfl ?_
    refine z_gf 52 (.ref 130) rfl ⟨rfl, rfl, rfl⟩ rfl rfl ?_
    refine x_l 53 rfl rfl rfl ?_
    refine x_l 54 rfl rfl rfl ?_
    have h1 := h.1
    have h := h.2
    refine z_is 55 10000 rfl ⟨rfl, rfl, rfl⟩ rfl h1 rfl ?_
    refine x_t 58 rfl rfl rfl ?_
    refine x_t 61 rfl rfl rfl ?_
    refine x_g rfl ?_
    exact h
  · have h := h.2 c
    refine x_g rfl ?_
    refine x_t 61 rfl rfl rfl ?_
    refine x_g rfl ?_
    exact h

theorem bk_Mo_planned_66 {k : Nat} {pa pb : Nat} {ga : Nat → Nat} {I : pm_II} {J : pm_JJ} {Q : Option Value → pm_H → Prop} {x1 : Int32} {x2 : Int32} {x3 : Int32} (h : ((x1 < x3 → Px (k + 1) 176 m_Mo_planned 198 [.ref 120, .int x1, .int x2, .int x1, .null, .null] [] (hp (pm_up I 120 15 0) J (pm_RT pa pb ga)) Q) ∧ (¬ (x1 < x3) → ((¬ x3 = 0 → Px (k + 1) 176 m_Mo_planned 86 [.ref 120, .int x1, .int x2, .int x3, .null, .null] [.int 99, .int x3, .ref 129] (hp I J (pm_RT pa pb ga)) Q) ∧ (¬ (¬ x3 = 0) → Px (k + 1) 176 m_Mo_planned 86 [.ref 120, .int x1, .int x2, .int x3, .null, .null] [.int 0, .int x3, .ref 129] (hp I J (pm_RT pa pb ga)) Q))))) : Px (k + 1) 176 m_Mo_planned 66 [.ref 120, .int x1, .int x2, .int x3, .null, .null] [] (hp I J (pm_RT pa pb ga)) Q := by
  refine x_l 67 rfl rfl rfl ?_
  refine x_l 68 rfl rfl rfl ?_
  refine x_b 71 rfl rfl rfl (fun c => ?_) (fun c => ?_)
  · have h := h.1 c
    refine x_l 192 rfl rfl rfl ?_
    refine z_k 193 0 rfl (by decide) rfl ?_
    refine z_pi 196 rfl (Or.inl rfl) rfl (fun z => by cases z) ⟨rfl, rfl, rfl⟩ rfl ?_
    refine x_l 197 rfl rfl rfl ?_
    refine x_t 198 rfl rfl rfl ?_
    exact h
  · have h := h.2 c
    refine x_l 72 rfl rfl rfl ?_
    refine z_gf 75 (.ref 129) rfl ⟨rfl, rfl, rfl⟩ rfl rfl ?_
    refine x_l 76 rfl rfl rfl ?_
    refine x_l 77 rfl rfl rfl ?_
    refine x_b 80 rfl rfl rfl (fun c => ?_) (fun c => ?_)
    · have h := h.1 c
      refine z_k 86 99 rfl (by decide) rfl ?_
      exact h
    · have h := h.2 c
      refine z_k 81 0 rfl (by decide) rfl ?_
      refine x_g rfl ?_
      exact h

theorem bk_Mo_planned_86 {k : Nat} {pa pb : Nat} {ga : Nat → Nat} {I : pm_II} {J : pm_JJ} {Q : Option Value → pm_H → Prop} {x1 : Int32} {x2 : Int32} {x3 : Int32} {s1 : Int32} {s2 : Int32} (h : vp_in s1 10000 ∧ Px k 176 m_Mo_isWithin 0 [.int x3, .int x1, .null, .null] [] (hp (pm_up I 129 ((s1 : Int32).toNatClampNeg) s2) J (pm_RT pa pb ga)) (fun r h' => h'.1 = 176 ∧ Px (k + 1) 176 m_Mo_planned 92 [.ref 120, .int x1, .int x2, .int x3, .null, .null] (r.toList ++ []) h' Q)) : Px (k + 1) 176 m_Mo_planned 86 [.ref 120, .int x1, .int x2, .int x3, .null, .null] [.int s2, .int s1, .ref 129] (hp I J (pm_RT pa pb ga)) Q := by
  have h1 := h.1
  have h := h.2
  refine z_is 87 10000 rfl ⟨rfl, rfl, rfl⟩ rfl h1 rfl ?_
  refine x_l 88 rfl rfl rfl ?_
  refine x_l 89 rfl rfl rfl ?_
  exact z_cs (As := [.int x3, .int x1]) (rest := []) rfl at_Mo_isWithin rfl rfl (Nat.le_of_ble_eq_true rfl) (Nat.le_of_ble_eq_true rfl) rfl h

theorem bk_Mo_planned_92 {k : Nat} {pa pb : Nat} {ga : Nat → Nat} {I : pm_II} {J : pm_JJ} {Q : Option Value → pm_H → Prop} {x1 : Int32} {x2 : Int32} {x3 : Int32} {s0 : Int32} (h : ((¬ s0 = 0 → Px (k + 1) 176 m_Mo_planned 101 [.ref 120, .int x1, .int x2, .int x3, .int 0, .null] [] (hp I J (pm_RT pa pb ga)) Q) ∧ (¬ (¬ s0 = 0) → Px (k + 1) 176 m_Mo_planned 185 [.ref 120, .int x1, .int x2, .int x3, .null, .null] [] (hp I J (pm_RT pa pb ga)) Q))) : Px (k + 1) 176 m_Mo_planned 92 [.ref 120, .int x1, .int x2, .int x3, .null, .null] [.int s0] (hp I J (pm_RT pa pb ga)) Q := by
  refine x_b 95 rfl rfl rfl (fun c => ?_) (fun c => ?_)
  · have h := h.1 c
    refine z_k 99 0 rfl (by decide) rfl ?_
    refine x_t 101 rfl rfl rfl ?_
    exact h
  · have h := h.2 c
    refine x_g rfl ?_
    exact h

theorem bk_Mo_planned_101 {k : Nat} {pa pb : Nat} {ga : Nat → Nat} {I : pm_II} {J : pm_JJ} {Q : Option Value → pm_H → Prop} {x1 : Int32} {x2 : Int32} {x3 : Int32} {x4 : Int32} (h : ((x2 ≤ x4 → Px (k + 1) 176 m_Mo_planned 185 [.ref 120, .int x1, .int x2, .int x3, .int x4, .null] [] (hp I J (pm_RT pa pb ga)) Q) ∧ (¬ (x2 ≤ x4) → vp_in x4 10000 ∧ ((x3 < (I 130 ((x4 : Int32).toNatClampNeg)) → Px (k + 1) 176 m_Mo_planned 185 [.ref 120, .int x1, .int x2, .int x3, .int x4, .null] [] (hp I J (pm_RT pa pb ga)) Q) ∧ (¬ (x3 < (I 130 ((x4 : Int32).toNatClampNeg))) → vp_in x4 10000 ∧ Px k 176 m_Mo_isWithin 0 [.int (I 130 ((x4 : Int32).toNatClampNeg)), .int x3, .null, .null] [] (hp I J (pm_RT pa pb ga)) (fun r h' => h'.1 = 176 ∧ Px (k + 1) 176 m_Mo_planned 129 [.ref 120, .int x1, .int x2, .int x3, .int x4, .null] (r.toList ++ []) h' Q)))))) : Px (k + 1) 176 m_Mo_planned 101 [.ref 120, .int x1, .int x2, .int x3, .int x4, .null] [] (hp I J (pm_RT pa pb ga)) Q := by
  refine x_l 103 rfl rfl rfl ?_
  refine x_l 104 rfl rfl rfl ?_
  refine x_b 107 rfl rfl rfl (fun c => ?_) (fun c => ?_)
  · have h := h.1 c
    exact h
  · have h := h.2 c
    refine x_l 108 rfl rfl rfl ?_
    refine z_gf 111 (.ref 130) rfl ⟨rfl, rfl, rfl⟩ rfl rfl ?_
    refine x_l 113 rfl rfl rfl ?_
    have h1 := h.1
    have h := h.2
    refine z_il 114 10000 rfl ⟨rfl, rfl, rfl⟩ rfl h1 rfl ?_
    refine x_l 115 rfl rfl rfl ?_
    refine x_b 118 rfl rfl rfl (fun c => ?_) (fun c => ?_)
    · have h := h.1 c
      exact h
    · have h := h.2 c
      refine x_l 119 rfl rfl rfl ?_
      refine z_gf 122 (.ref 130) rfl ⟨rfl, rfl, rfl⟩ rfl rfl ?_
      refine x_l 124 rfl rfl rfl ?_
      have h1 := h.1
      have h := h.2
      refine z_il 125 10000 rfl ⟨rfl, rfl, rfl⟩ rfl h1 rfl ?_
      refine x_l 126 rfl rfl rfl ?_
      exact z_cs (As := [.int (I 130 ((x4 : Int32).toNatClampNeg)), .int x3]) (rest := []) rfl at_Mo_isWithin rfl rfl (Nat.le_of_ble_eq_true rfl) (Nat.le_of_ble_eq_true rfl) rfl h

theorem bk_Mo_planned_129 {k : Nat} {pa pb : Nat} {ga : Nat → Nat} {I : pm_II} {J : pm_JJ} {Q : Option Value → pm_H → Prop} {x1 : Int32} {x2 : Int32} {x3 : Int32} {x4 : Int32} {s0 : Int32} (h : ((s0 = 0 → Px (k + 1) 176 m_Mo_planned 101 [.ref 120, .int x1, .int x2, .int x3, .int (x4 + Int32.ofInt 1), .null] [] (hp I J (pm_RT pa pb ga)) Q) ∧ (¬ (s0 = 0) → vp_in x4 10000 ∧ vp_in (x3 - (I 130 ((x4 : Int32).toNatClampNeg))) 10000 ∧ vp_in x3 10000 ∧ (((I 129 ((x3 : Int32).toNatClampNeg)) ≤ ((I 129 (((x3 - (I 130 ((x4 : Int32).toNatClampNeg))) : Int32).toNatClampNeg)) + (1 : Int32)) → Px (k + 1) 176 m_Mo_planned 101 [.ref 120, .int x1, .int x2, .int x3, .int (x4 + Int32.ofInt 1), .null] [] (hp I J (pm_RT pa pb ga)) Q) ∧ (¬ ((I 129 ((x3 : Int32).toNatClampNeg)) ≤ ((I 129 (((x3 - (I 130 ((x4 : Int32).toNatClampNeg))) : Int32).toNatClampNeg)) + (1 : Int32))) → vp_in x4 10000 ∧ vp_in (x3 - (I 130 ((x4 : Int32).toNatClampNeg))) 10000 ∧ vp_in x3 10000 ∧ Px (k + 1) 176 m_Mo_planned 101 [.ref 120, .int x1, .int x2, .int x3, .int (x4 + Int32.ofInt 1), .null] [] (hp (pm_up I 129 ((x3 : Int32).toNatClampNeg) ((I 129 (((x3 - (I 130 ((x4 : Int32).toNatClampNeg))) : Int32).toNatClampNeg)) + (1 : Int32))) J (pm_RT pa pb ga)) Q))))) : Px (k + 1) 176 m_Mo_planned 129 [.ref 120, .int x1, .int x2, .int x3, .int x4, .null] [.int s0] (hp I J (pm_RT pa pb ga)) Q := by
  refine x_b 132 rfl rfl rfl (fun c => ?_) (fun c => ?_)
  · have h := h.1 c
    refine x_t 182 rfl rfl rfl ?_
    refine x_g rfl ?_
    exact h
  · have h := h.2 c
    refine x_l 133 rfl rfl rfl ?_
    refine z_gf 136 (.ref 129) rfl ⟨rfl, rfl, rfl⟩ rfl rfl ?_
    refine x_l 137 rfl rfl rfl ?_
    refine x_l 138 rfl rfl rfl ?_
    refine z_gf 141 (.ref 130) rfl ⟨rfl, rfl, rfl⟩ rfl rfl ?_
    refine x_l 143 rfl rfl rfl ?_
    have h1 := h.1
    have h := h.2
    refine z_il 144 10000 rfl ⟨rfl, rfl, rfl⟩ rfl h1 rfl ?_
    refine x_s 145 rfl rfl rfl ?_
    have h1 := h.1
    have h := h.2
    refine z_il 146 10000 rfl ⟨rfl, rfl, rfl⟩ rfl h1 rfl ?_
    refine z_k 147 1 rfl (by decide) rfl ?_
    refine x_s 148 rfl rfl rfl ?_
    refine x_l 149 rfl rfl rfl ?_
    refine z_gf 152 (.ref 129) rfl ⟨rfl, rfl, rfl⟩ rfl rfl ?_
    refine x_l 153 rfl rfl rfl ?_
    have h1 := h.1
    have h := h.2
    refine z_il 154 10000 rfl ⟨rfl, rfl, rfl⟩ rfl h1 rfl ?_
    refine x_b 157 rfl rfl rfl (fun c => ?_) (fun c => ?_)
    · have h := h.1 c
      refine x_t 182 rfl rfl rfl ?_
      refine x_g rfl ?_
      exact h
    · have h := h.2 c
      refine x_l 158 rfl rfl rfl ?_
      refine z_gf 161 (.ref 129) rfl ⟨rfl, rfl, rfl⟩ rfl rfl ?_
      refine x_l 162 rfl rfl rfl ?_
      refine x_l 163 rfl rfl rfl ?_
      refine z_gf 166 (.ref 129) rfl ⟨rfl, rfl, rfl⟩ rfl rfl ?_
      refine x_l 167 rfl rfl rfl ?_
      refine x_l 168 rfl rfl rfl ?_
      refine z_gf 171 (.ref 130) rfl ⟨rfl, rfl, rfl⟩ rfl rfl ?_
      refine x_l 173 rfl rfl rfl ?_
      have h1 := h.1
      have h := h.2
      refine z_il 174 10000 rfl ⟨rfl, rfl, rfl⟩ rfl h1 rfl ?_
      refine x_s 175 rfl rfl rfl ?_
      have h1 := h.1
      have h := h.2
      refine z_il 176 10000 rfl ⟨rfl, rfl, rfl⟩ rfl h1 rfl ?_
      refine z_k 177 1 rfl (by decide) rfl ?_
      refine x_s 178 rfl rfl rfl ?_
      have h1 := h.1
      have h := h.2
      refine z_is 179 10000 rfl ⟨rfl, rfl, rfl⟩ rfl h1 rfl ?_
      refine x_t 182 rfl rfl rfl ?_
      refine x_g rfl ?_
      exact h

theorem bk_Mo_planned_185 {k : Nat} {pa pb : Nat} {ga : Nat → Nat} {I : pm_II} {J : pm_JJ} {Q : Option Value → pm_H → Prop} {x1 : Int32} {x2 : Int32} {x3 : Int32} (h : Px (k + 1) 176 m_Mo_planned 66 [.ref 120, .int x1, .int x2, .int (x3 + Int32.ofInt 1), .null, .null] [] (hp I J (pm_RT pa pb ga)) Q) : Px (k + 1) 176 m_Mo_planned 185 [.ref 120, .int x1, .int x2, .int x3, .null, .null] [] (hp I J (pm_RT pa pb ga)) Q := by
  refine x_t 188 rfl rfl rfl ?_
  refine x_g rfl ?_
  exact h

theorem bk_Mo_planned_198 {k : Nat} {pa pb : Nat} {ga : Nat → Nat} {I : pm_II} {J : pm_JJ} {Q : Option Value → pm_H → Prop} {x1 : Int32} {x2 : Int32} {x3 : Int32} (h : ((x3 ≤ 0 → Q none (hp I J (pm_RT pa pb ga))) ∧ (¬ (x3 ≤ 0) → Px (k + 1) 176 m_Mo_planned 208 [.ref 120, .int x1, .int x2, .int x3, .int 0, .int 0] [] (hp I J (pm_RT pa pb ga)) Q))) : Px (k + 1) 176 m_Mo_planned 198 [.ref 120, .int x1, .int x2, .int x3, .null, .null] [] (hp I J (pm_RT pa pb ga)) Q := by
  refine x_l 199 rfl rfl rfl ?_
  refine x_b 202 rfl rfl rfl (fun c => ?_) (fun c => ?_)
  · have h := h.1 c
    exact x_rv rfl rfl h
  · have h := h.2 c
    refine z_k 203 0 rfl (by decide) rfl ?_
    refine x_t 205 rfl rfl rfl ?_
    refine z_k 206 0 rfl (by decide) rfl ?_
    refine x_t 208 rfl rfl rfl ?_
    exact h

theorem bk_Mo_planned_208 {k : Nat} {pa pb : Nat} {ga : Nat → Nat} {I : pm_II} {J : pm_JJ} {Q : Option Value → pm_H → Prop} {x1 : Int32} {x2 : Int32} {x3 : Int32} {x4 : Int32} {x5 : Int32} (h : ((x2 ≤ x5 → Px (k + 1) 176 m_Mo_planned 284 [.ref 120, .int x1, .int x2, .int x3, .int x4, .int x5] [] (hp I J (pm_RT pa pb ga)) Q) ∧ (¬ (x2 ≤ x5) → vp_in x5 10000 ∧ ((x3 < (I 130 ((x5 : Int32).toNatClampNeg)) → Px (k + 1) 176 m_Mo_planned 284 [.ref 120, .int x1, .int x2, .int x3, .int x4, .int x5] [] (hp I J (pm_RT pa pb ga)) Q) ∧ (¬ (x3 < (I 130 ((x5 : Int32).toNatClampNeg))) → vp_in x5 10000 ∧ Px k 176 m_Mo_isWithin 0 [.int (I 130 ((x5 : Int32).toNatClampNeg)), .int x3, .null, .null] [] (hp I J (pm_RT pa pb ga)) (fun r h' => h'.1 = 176 ∧ Px (k + 1) 176 m_Mo_planned 236 [.ref 120, .int x1, .int x2, .int x3, .int x4, .int x5] (r.toList ++ []) h' Q)))))) : Px (k + 1) 176 m_Mo_planned 208 [.ref 120, .int x1, .int x2, .int x3, .int x4, .int x5] [] (hp I J (pm_RT pa pb ga)) Q := by
  refine x_l 210 rfl rfl rfl ?_
  refine x_l 211 rfl rfl rfl ?_
  refine x_b 214 rfl rfl rfl (fun c => ?_) (fun c => ?_)
  · have h := h.1 c
    exact h
  · have h := h.2 c
    refine x_l 215 rfl rfl rfl ?_
    refine z_gf 218 (.ref 130) rfl ⟨rfl, rfl, rfl⟩ rfl rfl ?_
    refine x_l 220 rfl rfl rfl ?_
    have h1 := h.1
    have h := h.2
    refine z_il 221 10000 rfl ⟨rfl, rfl, rfl⟩ rfl h1 rfl ?_
    refine x_l 222 rfl rfl rfl ?_
    refine x_b 225 rfl rfl rfl (fun c => ?_) (fun c => ?_)
    · have h := h.1 c
      exact h
    · have h := h.2 c
      refine x_l 226 rfl rfl rfl ?_
      refine z_gf 229 (.ref 130) rfl ⟨rfl, rfl, rfl⟩ rfl rfl ?_
      refine x_l 231 rfl rfl rfl ?_
      have h1 := h.1
      have h := h.2
      refine z_il 232 10000 rfl ⟨rfl, rfl, rfl⟩ rfl h1 rfl ?_
      refine x_l 233 rfl rfl rfl ?_
      exact z_cs (As := [.int (I 130 ((x5 : Int32).toNatClampNeg)), .int x3]) (rest := []) rfl at_Mo_isWithin rfl rfl (Nat.le_of_ble_eq_true rfl) (Nat.le_of_ble_eq_true rfl) rfl h

theorem bk_Mo_planned_236 {k : Nat} {pa pb : Nat} {ga : Nat → Nat} {I : pm_II} {J : pm_JJ} {Q : Option Value → pm_H → Prop} {x1 : Int32} {x2 : Int32} {x3 : Int32} {x4 : Int32} {x5 : Int32} {s0 : Int32} (h : ((s0 = 0 → Px (k + 1) 176 m_Mo_planned 208 [.ref 120, .int x1, .int x2, .int x3, .int x4, .int (x5 + Int32.ofInt 1)] [] (hp I J (pm_RT pa pb ga)) Q) ∧ (¬ (s0 = 0) → vp_in x5 10000 ∧ vp_in (x3 - (I 130 ((x5 : Int32).toNatClampNeg))) 10000 ∧ vp_in x3 10000 ∧ ((¬ (I 129 (((x3 - (I 130 ((x5 : Int32).toNatClampNeg))) : Int32).toNatClampNeg)) = ((I 129 ((x3 : Int32).toNatClampNeg)) - (1 : Int32)) → Px (k + 1) 176 m_Mo_planned 208 [.ref 120, .int x1, .int x2, .int x3, .int x4, .int (x5 + Int32.ofInt 1)] [] (hp I J (pm_RT pa pb ga)) Q) ∧ (¬ (¬ (I 129 (((x3 - (I 130 ((x5 : Int32).toNatClampNeg))) : Int32).toNatClampNeg)) = ((I 129 ((x3 : Int32).toNatClampNeg)) - (1 : Int32))) → vp_in x5 10000 ∧ Px (k + 1) 176 m_Mo_planned 208 [.ref 120, .int x1, .int x2, .int x3, .int (I 130 ((x5 : Int32).toNatClampNeg)), .int (x5 + Int32.ofInt 1)] [] (hp I J (pm_RT pa pb ga)) Q))))) : Px (k + 1) 176 m_Mo_planned 236 [.ref 120, .int x1, .int x2, .int x3, .int x4, .int x5] [.int s0] (hp I J (pm_RT pa pb ga)) Q := by
  refine x_b 239 rfl rfl rfl (fun c => ?_) (fun c => ?_)
  · have h := h.1 c
    refine x_l 276 rfl rfl rfl ?_
    refine x_t 278 rfl rfl rfl ?_
    refine x_t 281 rfl rfl rfl ?_
    refine x_g rfl ?_
    exact h
  · have h := h.2 c
    refine x_l 240 rfl rfl rfl ?_
    refine z_gf 243 (.ref 129) rfl ⟨rfl, rfl, rfl⟩ rfl rfl ?_
    refine x_l 244 rfl rfl rfl ?_
    refine x_l 245 rfl rfl rfl ?_
    refine z_gf 248 (.ref 130) rfl ⟨rfl, rfl, rfl⟩ rfl rfl ?_
    refine x_l 250 rfl rfl rfl ?_
    have h1 := h.1
    have h := h.2
    refine z_il 251 10000 rfl ⟨rfl, rfl, rfl⟩ rfl h1 rfl ?_
    refine x_s 252 rfl rfl rfl ?_
    have h1 := h.1
    have h := h.2
    refine z_il 253 10000 rfl ⟨rfl, rfl, rfl⟩ rfl h1 rfl ?_
    refine x_l 254 rfl rfl rfl ?_
    refine z_gf 257 (.ref 129) rfl ⟨rfl, rfl, rfl⟩ rfl rfl ?_
    refine x_l 258 rfl rfl rfl ?_
    have h1 := h.1
    have h := h.2
    refine z_il 259 10000 rfl ⟨rfl, rfl, rfl⟩ rfl h1 rfl ?_
    refine z_k 260 1 rfl (by decide) rfl ?_
    refine x_s 261 rfl rfl rfl ?_
    refine x_b 264 rfl rfl rfl (fun c => ?_) (fun c => ?_)
    · have h := h.1 c
      refine x_l 276 rfl rfl rfl ?_
      refine x_t 278 rfl rfl rfl ?_
      refine x_t 281 rfl rfl rfl ?_
      refine x_g rfl ?_
      exact h
    · have h := h.2 c
      refine x_l 265 rfl rfl rfl ?_
      refine z_gf 268 (.ref 130) rfl ⟨rfl, rfl, rfl⟩ rfl rfl ?_
      refine x_l 270 rfl rfl rfl ?_
      have h1 := h.1
      have h := h.2
      refine z_il 271 10000 rfl ⟨rfl, rfl, rfl⟩ rfl h1 rfl ?_
      refine x_g rfl ?_
      refine x_t 278 rfl rfl rfl ?_
      refine x_t 281 rfl rfl rfl ?_
      refine x_g rfl ?_
      exact h

theorem bk_Mo_planned_284 {k : Nat} {pa pb : Nat} {ga : Nat → Nat} {I : pm_II} {J : pm_JJ} {Q : Option Value → pm_H → Prop} {x1 : Int32} {x2 : Int32} {x3 : Int32} {x4 : Int32} {x5 : Int32} (h : Px (k + 1) 176 m_Mo_planned 287 [.ref 120, .int x1, .int x2, .int x3, .int x4, .int 0] [] (hp I J (pm_RT pa pb ga)) Q) : Px (k + 1) 176 m_Mo_planned 284 [.ref 120, .int x1, .int x2, .int x3, .int x4, .int x5] [] (hp I J (pm_RT pa pb ga)) Q := by
  refine z_k 285 0 rfl (by decide) rfl ?_
  refine x_t 287 rfl rfl rfl ?_
  exact h

theorem bk_Mo_planned_287 {k : Nat} {pa pb : Nat} {ga : Nat → Nat} {I : pm_II} {J : pm_JJ} {Q : Option Value → pm_H → Prop} {x1 : Int32} {x2 : Int32} {x3 : Int32} {x4 : Int32} {x5 : Int32} (h : ((4 ≤ x5 → Px (k + 1) 176 m_Mo_planned 198 [.ref 120, .int x1, .int x2, .int (x3 - x4), .int x4, .int x5] [] (hp (pm_up I 120 15 ((I 120 15) + (1 : Int32))) J (pm_RT pa pb ga)) Q) ∧ (¬ (4 ≤ x5) → Px k 176 m_Mo_digit 0 [.int x4, .int x5] [] (hp I J (pm_RT pa pb ga)) (fun r h' => h'.1 = 176 ∧ Px (k + 1) 176 m_Mo_planned 313 [.ref 120, .int x1, .int x2, .int x3, .int x4, .int x5] (r.toList ++ [.int (((4 : Int32) * (I 120 15)) + x5), .ref 127]) h' Q)))) : Px (k + 1) 176 m_Mo_planned 287 [.ref 120, .int x1, .int x2, .int x3, .int x4, .int x5] [] (hp I J (pm_RT pa pb ga)) Q := by
  refine x_l 289 rfl rfl rfl ?_
  refine z_k 290 4 rfl (by decide) rfl ?_
  refine x_b 293 rfl rfl rfl (fun c => ?_) (fun c => ?_)
  · have h := h.1 c
    refine x_l 321 rfl rfl rfl ?_
    refine x_s 322 rfl rfl rfl ?_
    refine z_gf 325 (.int (I 120 15)) rfl ⟨rfl, rfl, rfl⟩ rfl rfl ?_
    refine z_k 326 1 rfl (by decide) rfl ?_
    refine x_s 327 rfl rfl rfl ?_
    refine z_pi 330 rfl (Or.inl rfl) rfl (fun z => by cases z) ⟨rfl, rfl, rfl⟩ rfl ?_
    refine x_l 331 rfl rfl rfl ?_
    refine x_l 333 rfl rfl rfl ?_
    refine x_s 334 rfl rfl rfl ?_
    refine x_t 335 rfl rfl rfl ?_
    refine x_g rfl ?_
    exact h
  · have h := h.2 c
    refine x_l 294 rfl rfl rfl ?_
    refine z_gf 297 (.ref 127) rfl ⟨rfl, rfl, rfl⟩ rfl rfl ?_
    refine z_k 298 4 rfl (by decide) rfl ?_
    refine x_l 299 rfl rfl rfl ?_
    refine z_gf 302 (.int (I 120 15)) rfl ⟨rfl, rfl, rfl⟩ rfl rfl ?_
    refine x_s 303 rfl rfl rfl ?_
    refine x_l 305 rfl rfl rfl ?_
    refine x_s 306 rfl rfl rfl ?_
    refine x_l 308 rfl rfl rfl ?_
    refine x_l 310 rfl rfl rfl ?_
    exact z_cs (As := [.int x4, .int x5]) (rest := [.int (((4 : Int32) * (I 120 15)) + x5), .ref 127]) rfl at_Mo_digit rfl rfl (Nat.le_of_ble_eq_true rfl) (Nat.le_of_ble_eq_true rfl) rfl h

theorem bk_Mo_planned_313 {k : Nat} {pa pb : Nat} {ga : Nat → Nat} {I : pm_II} {J : pm_JJ} {Q : Option Value → pm_H → Prop} {x1 : Int32} {x2 : Int32} {x3 : Int32} {x4 : Int32} {x5 : Int32} {s1 : Int32} {s2 : Int32} (h : vp_in s1 64 ∧ Px (k + 1) 176 m_Mo_planned 287 [.ref 120, .int x1, .int x2, .int x3, .int x4, .int (x5 + Int32.ofInt 1)] [] (hp (pm_up I 127 ((s1 : Int32).toNatClampNeg) s2) J (pm_RT pa pb ga)) Q) : Px (k + 1) 176 m_Mo_planned 313 [.ref 120, .int x1, .int x2, .int x3, .int x4, .int x5] [.int s2, .int s1, .ref 127] (hp I J (pm_RT pa pb ga)) Q := by
  have h1 := h.1
  have h := h.2
  refine z_is 314 64 rfl ⟨rfl, rfl, rfl⟩ rfl h1 rfl ?_
  refine x_t 317 rfl rfl rfl ?_
  refine x_g rfl ?_
  exact h

theorem bk_Mo_isPattern_0 {k : Nat} {pa pb : Nat} {ga : Nat → Nat} {I : pm_II} {J : pm_JJ} {Q : Option Value → pm_H → Prop} {x1 : Int32} {x2 : Int32} (h : Px (k + 1) 176 m_Mo_isPattern 8 [.ref 120, .int x1, .int x2, .int 0, .int 0, .int 0] [] (hp I J (pm_RT pa pb ga)) Q) : Px (k + 1) 176 m_Mo_isPattern 0 [.ref 120, .int x1, .int x2, .null, .null, .null] [] (hp I J (pm_RT pa pb ga)) Q := by
  refine z_k 1 0 rfl (by decide) rfl ?_
  refine x_t 2 rfl rfl rfl ?_
  refine z_k 3 0 rfl (by decide) rfl ?_
  refine x_t 5 rfl rfl rfl ?_
  refine z_k 6 0 rfl (by decide) rfl ?_
  refine x_t 8 rfl rfl rfl ?_
  exact h

theorem bk_Mo_isPattern_8 {k : Nat} {pa pb : Nat} {ga : Nat → Nat} {I : pm_II} {J : pm_JJ} {Q : Option Value → pm_H → Prop} {x1 : Int32} {x2 : Int32} {x3 : Int32} {x4 : Int32} {x5 : Int32} (h : ((4 ≤ x5 → ((x3 ≤ 0 → Q (some (.int 0)) (hp I J (pm_RT pa pb ga))) ∧ (¬ (x3 ≤ 0) → (((I 120 13) < x3 → Q (some (.int 0)) (hp I J (pm_RT pa pb ga))) ∧ (¬ ((I 120 13) < x3) → (((I 120 12) < x4 → Q (some (.int 0)) (hp I J (pm_RT pa pb ga))) ∧ (¬ ((I 120 12) < x4) → Q (some (.int 1)) (hp I J (pm_RT pa pb ga))))))))) ∧ (¬ (4 ≤ x5) → Px k 176 m_Mo_digit 0 [.int x1, .int x5] [] (hp I J (pm_RT pa pb ga)) (fun r h' => h'.1 = 176 ∧ Px (k + 1) 176 m_Mo_isPattern 20 [.ref 120, .int x1, .int x2, .int x3, .int x4, .int x5] (r.toList ++ []) h' Q)))) : Px (k + 1) 176 m_Mo_isPattern 8 [.ref 120, .int x1, .int x2, .int x3, .int x4, .int x5] [] (hp I J (pm_RT pa pb ga)) Q := by
  refine x_l 10 rfl rfl rfl ?_
  refine z_k 11 4 rfl (by decide) rfl ?_
  refine x_b 14 rfl rfl rfl (fun c => ?_) (fun c => ?_)
  · have h := h.1 c
    refine x_l 79 rfl rfl rfl ?_
    refine x_b 82 rfl rfl rfl (fun c => ?_) (fun c => ?_)
    · have h := h.1 c
      refine z_k 104 0 rfl (by decide) rfl ?_
      exact x_ri rfl (Or.inr ⟨rfl, Or.inl rfl⟩) h
    · have h := h.2 c
      refine x_l 83 rfl rfl rfl ?_
      refine x_l 84 rfl rfl rfl ?_
      refine z_gf 87 (.int (I 120 13)) rfl ⟨rfl, rfl, rfl⟩ rfl rfl ?_
      refine x_b 90 rfl rfl rfl (fun c => ?_) (fun c => ?_)
      · have h := h.1 c
        refine z_k 104 0 rfl (by decide) rfl ?_
        exact x_ri rfl (Or.inr ⟨rfl, Or.inl rfl⟩) h
      · have h := h.2 c
        refine x_l 92 rfl rfl rfl ?_
        refine x_l 93 rfl rfl rfl ?_
        refine z_gf 96 (.int (I 120 12)) rfl ⟨rfl, rfl, rfl⟩ rfl rfl ?_
        refine x_b 99 rfl rfl rfl (fun c => ?_) (fun c => ?_)
        · have h := h.1 c
          refine z_k 104 0 rfl (by decide) rfl ?_
          exact x_ri rfl (Or.inr ⟨rfl, Or.inl rfl⟩) h
        · have h := h.2 c
          refine z_k 100 1 rfl (by decide) rfl ?_
          refine x_g rfl ?_
          exact x_ri rfl (Or.inr ⟨rfl, Or.inr rfl⟩) h
  · have h := h.2 c
    refine x_l 15 rfl rfl rfl ?_
    refine x_l 17 rfl rfl rfl ?_
    exact z_cs (As := [.int x1, .int x5]) (rest := []) rfl at_Mo_digit rfl rfl (Nat.le_of_ble_eq_true rfl) (Nat.le_of_ble_eq_true rfl) rfl h

theorem bk_Mo_isPattern_20 {k : Nat} {pa pb : Nat} {ga : Nat → Nat} {I : pm_II} {J : pm_JJ} {Q : Option Value → pm_H → Prop} {x1 : Int32} {x2 : Int32} {x3 : Int32} {x4 : Int32} {x5 : Int32} {s0 : Int32} (h : Px k 176 m_Mo_digit 0 [.int x2, .int x5] [] (hp I J (pm_RT pa pb ga)) (fun r h' => h'.1 = 176 ∧ Px (k + 1) 176 m_Mo_isPattern 26 [.ref 120, .int x1, .int x2, .int x3, .int x4, .int x5] (r.toList ++ [.int s0]) h' Q)) : Px (k + 1) 176 m_Mo_isPattern 20 [.ref 120, .int x1, .int x2, .int x3, .int x4, .int x5] [.int s0] (hp I J (pm_RT pa pb ga)) Q := by
  refine x_l 21 rfl rfl rfl ?_
  refine x_l 23 rfl rfl rfl ?_
  exact z_cs (As := [.int x2, .int x5]) (rest := [.int s0]) rfl at_Mo_digit rfl rfl (Nat.le_of_ble_eq_true rfl) (Nat.le_of_ble_eq_true rfl) rfl h

theorem bk_Mo_isPattern_26 {k : Nat} {pa pb : Nat} {ga : Nat → Nat} {I : pm_II} {J : pm_JJ} {Q : Option Value → pm_H → Prop} {x1 : Int32} {x2 : Int32} {x3 : Int32} {x4 : Int32} {x5 : Int32} {s0 : Int32} {s1 : Int32} (h : ((s0 ≤ s1 → Px k 176 m_Mo_digit 0 [.int x1, .int x5] [] (hp I J (pm_RT pa pb ga)) (fun r h' => h'.1 = 176 ∧ Px (k + 1) 176 m_Mo_isPattern 38 [.ref 120, .int x1, .int x2, .int x3, .int x4, .int x5] (r.toList ++ [.int x3]) h' Q)) ∧ (¬ (s0 ≤ s1) → Q (some (.int 0)) (hp I J (pm_RT pa pb ga))))) : Px (k + 1) 176 m_Mo_isPattern 26 [.ref 120, .int x1, .int x2, .int x3, .int x4, .int x5] [.int s1, .int s0] (hp I J (pm_RT pa pb ga)) Q := by
  refine x_b 29 rfl rfl rfl (fun c => ?_) (fun c => ?_)
  · have h := h.1 c
    refine x_l 32 rfl rfl rfl ?_
    refine x_l 33 rfl rfl rfl ?_
    refine x_l 35 rfl rfl rfl ?_
    exact z_cs (As := [.int x1, .int x5]) (rest := [.int x3]) rfl at_Mo_digit rfl rfl (Nat.le_of_ble_eq_true rfl) (Nat.le_of_ble_eq_true rfl) rfl h
  · have h := h.2 c
    refine z_k 30 0 rfl (by decide) rfl ?_
    exact x_ri rfl (Or.inr ⟨rfl, Or.inl rfl⟩) h

theorem bk_Mo_isPattern_38 {k : Nat} {pa pb : Nat} {ga : Nat → Nat} {I : pm_II} {J : pm_JJ} {Q : Option Value → pm_H → Prop} {x1 : Int32} {x2 : Int32} {x3 : Int32} {x4 : Int32} {x5 : Int32} {s0 : Int32} {s1 : Int32} (h : (((I 120 14) ≤ x5 → Px (k + 1) 176 m_Mo_isPattern 8 [.ref 120, .int x1, .int x2, .int (s0 + s1), .int (x4 + (0 : Int32)), .int (x5 + Int32.ofInt 1)] [] (hp I J (pm_RT pa pb ga)) Q) ∧ (¬ ((I 120 14) ≤ x5) → Px k 176 m_Mo_digit 0 [.int x1, .int x5] [] (hp I J (pm_RT pa pb ga)) (fun r h' => h'.1 = 176 ∧ Px (k + 1) 176 m_Mo_isPattern 57 [.ref 120, .int x1, .int x2, .int (s0 + s1), .int x4, .int x5] (r.toList ++ [.int x4]) h' Q)))) : Px (k + 1) 176 m_Mo_isPattern 38 [.ref 120, .int x1, .int x2, .int x3, .int x4, .int x5] [.int s1, .int s0] (hp I J (pm_RT pa pb ga)) Q := by
  refine x_s 39 rfl rfl rfl ?_
  refine x_t 40 rfl rfl rfl ?_
  refine x_l 42 rfl rfl rfl ?_
  refine x_l 44 rfl rfl rfl ?_
  refine x_l 45 rfl rfl rfl ?_
  refine z_gf 48 (.int (I 120 14)) rfl ⟨rfl, rfl, rfl⟩ rfl rfl ?_
  refine x_b 51 rfl rfl rfl (fun c => ?_) (fun c => ?_)
  · have h := h.1 c
    refine z_k 69 0 rfl (by decide) rfl ?_
    refine x_s 70 rfl rfl rfl ?_
    refine x_t 72 rfl rfl rfl ?_
    refine x_t 75 rfl rfl rfl ?_
    refine x_g rfl ?_
    exact h
  · have h := h.2 c
    refine x_l 52 rfl rfl rfl ?_
    refine x_l 54 rfl rfl rfl ?_
    exact z_cs (As := [.int x1, .int x5]) (rest := [.int x4]) rfl at_Mo_digit rfl rfl (Nat.le_of_ble_eq_true rfl) (Nat.le_of_ble_eq_true rfl) rfl h

theorem bk_Mo_isPattern_57 {k : Nat} {pa pb : Nat} {ga : Nat → Nat} {I : pm_II} {J : pm_JJ} {Q : Option Value → pm_H → Prop} {x1 : Int32} {x2 : Int32} {x3 : Int32} {x4 : Int32} {x5 : Int32} {s0 : Int32} {s1 : Int32} (h : vp_in x5 4 ∧ Px (k + 1) 176 m_Mo_isPattern 8 [.ref 120, .int x1, .int x2, .int x3, .int (s0 + (s1 * (I 123 ((x5 : Int32).toNatClampNeg)))), .int (x5 + Int32.ofInt 1)] [] (hp I J (pm_RT pa pb ga)) Q) : Px (k + 1) 176 m_Mo_isPattern 57 [.ref 120, .int x1, .int x2, .int x3, .int x4, .int x5] [.int s1, .int s0] (hp I J (pm_RT pa pb ga)) Q := by
  refine x_l 58 rfl rfl rfl ?_
  refine z_gf 61 (.ref 123) rfl ⟨rfl, rfl, rfl⟩ rfl rfl ?_
  refine x_l 63 rfl rfl rfl ?_
  have h1 := h.1
  have h := h.2
  refine z_il 64 4 rfl ⟨rfl, rfl, rfl⟩ rfl h1 rfl ?_
  refine x_s 65 rfl rfl rfl ?_
  refine x_g rfl ?_
  refine x_s 70 rfl rfl rfl ?_
  refine x_t 72 rfl rfl rfl ?_
  refine x_t 75 rfl rfl rfl ?_
  refine x_g rfl ?_
  exact h

theorem bk_Mo_digit_0 {k : Nat} {pa pb : Nat} {ga : Nat → Nat} {I : pm_II} {J : pm_JJ} {Q : Option Value → pm_H → Prop} {x0 : Int32} {x1 : Int32} (h : ((¬ x1 = 0 → ((¬ x1 = 1 → ((¬ x1 = 2 → Q (some (.int (x0 - x0 / 10 * 10))) (hp I J (pm_RT pa pb ga))) ∧ (¬ (¬ x1 = 2) → Q (some (.int ((x0 / 10) - (x0 / 10) / 10 * 10))) (hp I J (pm_RT pa pb ga))))) ∧ (¬ (¬ x1 = 1) → Q (some (.int ((x0 / 100) - (x0 / 100) / 10 * 10))) (hp I J (pm_RT pa pb ga))))) ∧ (¬ (¬ x1 = 0) → Q (some (.int (x0 / 1000))) (hp I J (pm_RT pa pb ga))))) : Px k 176 m_Mo_digit 0 [.int x0, .int x1] [] (hp I J (pm_RT pa pb ga)) Q := by
  refine x_l 1 rfl rfl rfl ?_
  refine x_b 4 rfl rfl rfl (fun c => ?_) (fun c => ?_)
  · have h := h.1 c
    refine x_l 13 rfl rfl rfl ?_
    refine z_k 14 1 rfl (by decide) rfl ?_
    refine x_b 17 rfl rfl rfl (fun c => ?_) (fun c => ?_)
    · have h := h.1 c
      refine x_l 28 rfl rfl rfl ?_
      refine z_k 29 2 rfl (by decide) rfl ?_
      refine x_b 32 rfl rfl rfl (fun c => ?_) (fun c => ?_)
      · have h := h.1 c
        refine x_l 43 rfl rfl rfl ?_
        refine z_k 45 10 rfl (by decide) rfl ?_
        refine x_rm 46 rfl (by decide) rfl ?_
        exact x_ri rfl (Or.inl rfl) h
      · have h := h.2 c
        refine x_l 33 rfl rfl rfl ?_
        refine z_k 35 10 rfl (by decide) rfl ?_
        refine x_dv 36 rfl (by decide) rfl ?_
        refine z_k 38 10 rfl (by decide) rfl ?_
        refine x_rm 39 rfl (by decide) rfl ?_
        refine x_g rfl ?_
        exact x_ri rfl (Or.inl rfl) h
    · have h := h.2 c
      refine x_l 18 rfl rfl rfl ?_
      refine z_k 20 100 rfl (by decide) rfl ?_
      refine x_dv 21 rfl (by decide) rfl ?_
      refine z_k 23 10 rfl (by decide) rfl ?_
      refine x_rm 24 rfl (by decide) rfl ?_
      refine x_g rfl ?_
      exact x_ri rfl (Or.inl rfl) h
  · have h := h.2 c
    refine x_l 5 rfl rfl rfl ?_
    refine z_k 8 1000 rfl (by decide) rfl ?_
    refine x_dv 9 rfl (by decide) rfl ?_
    refine x_g rfl ?_
    exact x_ri rfl (Or.inl rfl) h

theorem bk_Mo_isWithin_0 {k : Nat} {pa pb : Nat} {ga : Nat → Nat} {I : pm_II} {J : pm_JJ} {Q : Option Value → pm_H → Prop} {x0 : Int32} {x1 : Int32} (h : Px (k + 1) 176 m_Mo_isWithin 4 [.int x0, .int x1, .int 1, .int 0] [] (hp I J (pm_RT pa pb ga)) Q) : Px (k + 1) 176 m_Mo_isWithin 0 [.int x0, .int x1, .null, .null] [] (hp I J (pm_RT pa pb ga)) Q := by
  refine z_k 1 1 rfl (by decide) rfl ?_
  refine x_t 2 rfl rfl rfl ?_
  refine z_k 3 0 rfl (by decide) rfl ?_
  refine x_t 4 rfl rfl rfl ?_
  exact h

theorem bk_Mo_isWithin_4 {k : Nat} {pa pb : Nat} {ga : Nat → Nat} {I : pm_II} {J : pm_JJ} {Q : Option Value → pm_H → Prop} {x0 : Int32} {x1 : Int32} {x2 : Int32} {x3 : Int32} (h : ((4 ≤ x3 → (x2 = 0 ∨ x2 = 1) ∧ Q (some (.int x2)) (hp I J (pm_RT pa pb ga))) ∧ (¬ (4 ≤ x3) → ((x2 = 0 → Px (k + 1) 176 m_Mo_isWithin 4 [.int x0, .int x1, .int 0, .int (x3 + Int32.ofInt 1)] [] (hp I J (pm_RT pa pb ga)) Q) ∧ (¬ (x2 = 0) → Px k 176 m_Mo_digit 0 [.int x0, .int x3] [] (hp I J (pm_RT pa pb ga)) (fun r h' => h'.1 = 176 ∧ Px (k + 1) 176 m_Mo_isWithin 18 [.int x0, .int x1, .int x2, .int x3] (r.toList ++ []) h' Q)))))) : Px (k + 1) 176 m_Mo_isWithin 4 [.int x0, .int x1, .int x2, .int x3] [] (hp I J (pm_RT pa pb ga)) Q := by
  refine x_l 5 rfl rfl rfl ?_
  refine z_k 6 4 rfl (by decide) rfl ?_
  refine x_b 9 rfl rfl rfl (fun c => ?_) (fun c => ?_)
  · have h := h.1 c
    refine x_l 39 rfl rfl rfl ?_
    exact x_ri rfl (Or.inr ⟨rfl, h.1⟩) h.2
  · have h := h.2 c
    refine x_l 10 rfl rfl rfl ?_
    refine x_b 13 rfl rfl rfl (fun c => ?_) (fun c => ?_)
    · have h := h.1 c
      refine z_k 31 0 rfl (by decide) rfl ?_
      refine x_t 32 rfl rfl rfl ?_
      refine x_t 35 rfl rfl rfl ?_
      refine x_g rfl ?_
      exact h
    · have h := h.2 c
      refine x_l 14 rfl rfl rfl ?_
      refine x_l 15 rfl rfl rfl ?_
      exact z_cs (As := [.int x0, .int x3]) (rest := []) rfl at_Mo_digit rfl rfl (Nat.le_of_ble_eq_true rfl) (Nat.le_of_ble_eq_true rfl) rfl h

theorem bk_Mo_isWithin_18 {k : Nat} {pa pb : Nat} {ga : Nat → Nat} {I : pm_II} {J : pm_JJ} {Q : Option Value → pm_H → Prop} {x0 : Int32} {x1 : Int32} {x2 : Int32} {x3 : Int32} {s0 : Int32} (h : Px k 176 m_Mo_digit 0 [.int x1, .int x3] [] (hp I J (pm_RT pa pb ga)) (fun r h' => h'.1 = 176 ∧ Px (k + 1) 176 m_Mo_isWithin 23 [.int x0, .int x1, .int x2, .int x3] (r.toList ++ [.int s0]) h' Q)) : Px (k + 1) 176 m_Mo_isWithin 18 [.int x0, .int x1, .int x2, .int x3] [.int s0] (hp I J (pm_RT pa pb ga)) Q := by
  refine x_l 19 rfl rfl rfl ?_
  refine x_l 20 rfl rfl rfl ?_
  exact z_cs (As := [.int x1, .int x3]) (rest := [.int s0]) rfl at_Mo_digit rfl rfl (Nat.le_of_ble_eq_true rfl) (Nat.le_of_ble_eq_true rfl) rfl h

theorem bk_Mo_isWithin_23 {k : Nat} {pa pb : Nat} {ga : Nat → Nat} {I : pm_II} {J : pm_JJ} {Q : Option Value → pm_H → Prop} {x0 : Int32} {x1 : Int32} {x2 : Int32} {x3 : Int32} {s0 : Int32} {s1 : Int32} (h : ((s1 < s0 → Px (k + 1) 176 m_Mo_isWithin 4 [.int x0, .int x1, .int 0, .int (x3 + Int32.ofInt 1)] [] (hp I J (pm_RT pa pb ga)) Q) ∧ (¬ (s1 < s0) → Px (k + 1) 176 m_Mo_isWithin 4 [.int x0, .int x1, .int 1, .int (x3 + Int32.ofInt 1)] [] (hp I J (pm_RT pa pb ga)) Q))) : Px (k + 1) 176 m_Mo_isWithin 23 [.int x0, .int x1, .int x2, .int x3] [.int s1, .int s0] (hp I J (pm_RT pa pb ga)) Q := by
  refine x_b 26 rfl rfl rfl (fun c => ?_) (fun c => ?_)
  · have h := h.1 c
    refine z_k 31 0 rfl (by decide) rfl ?_
    refine x_t 32 rfl rfl rfl ?_
    refine x_t 35 rfl rfl rfl ?_
    refine x_g rfl ?_
    exact h
  · have h := h.2 c
    refine z_k 27 1 rfl (by decide) rfl ?_
    refine x_g rfl ?_
    refine x_t 32 rfl rfl rfl ?_
    refine x_t 35 rfl rfl rfl ?_
    refine x_g rfl ?_
    exact h
