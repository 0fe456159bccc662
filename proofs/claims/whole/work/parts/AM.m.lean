def ini1 : Option (Option Value × EH) := evx 4000 8 m_Ph_init 0 [.ref 16] [] (17, [], [])
def ini2 : Option (Option Value × EH) := ini1.bind (fun c => evx 4000 8 m_Mo_init 0 [.ref 120, .null] [] (121, c.2.2.1, c.2.2.2))
theorem ini2_try : (match ini2 with | some (none, h) => Nat.beq h.1 176 | _ => false) = true := by decide +kernel
