theorem tj1 {w : Cond} (h : w ∈ tables_1_1) : w ∈ tables_1 := List.mem_append_left _ h
theorem tj2 {w : Cond} (h : w ∈ tables_1_2) : w ∈ tables_1 := List.mem_append_right _ (List.mem_append_left _ h)
theorem tj3 {w : Cond} (h : w ∈ tables_1_3) : w ∈ tables_1 := List.mem_append_right _ (List.mem_append_right _ (List.mem_append_left _ h))
theorem tj4 {w : Cond} (h : w ∈ tables_1_4) : w ∈ tables_1 := List.mem_append_right _ (List.mem_append_right _ (List.mem_append_right _ (List.mem_append_left _ h)))
theorem tj5 {w : Cond} (h : w ∈ tables_1_5) : w ∈ tables_1 := List.mem_append_right _ (List.mem_append_right _ (List.mem_append_right _ (List.mem_append_right _ (List.mem_append_left _ h))))
theorem tj6 {w : Cond} (h : w ∈ tables_1_6) : w ∈ tables_1 := List.mem_append_right _ (List.mem_append_right _ (List.mem_append_right _ (List.mem_append_right _ (List.mem_append_right _ (List.mem_append_left _ h)))))
theorem tj7 {w : Cond} (h : w ∈ tables_1_7) : w ∈ tables_1 := List.mem_append_right _ (List.mem_append_right _ (List.mem_append_right _ (List.mem_append_right _ (List.mem_append_right _ (List.mem_append_right _ (List.mem_append_left _ h))))))
theorem tj8 {w : Cond} (h : w ∈ tables_1_8) : w ∈ tables_1 := List.mem_append_right _ (List.mem_append_right _ (List.mem_append_right _ (List.mem_append_right _ (List.mem_append_right _ (List.mem_append_right _ (List.mem_append_right _ (List.mem_append_left _ h)))))))
theorem tj9 {w : Cond} (h : w ∈ tables_1_9) : w ∈ tables_1 := List.mem_append_right _ (List.mem_append_right _ (List.mem_append_right _ (List.mem_append_right _ (List.mem_append_right _ (List.mem_append_right _ (List.mem_append_right _ (List.mem_append_right _ h)))))))
def pm_okV (Y : pm_M) : Bool := (decide (tables_1[pm_p4 Y]? = some (.initialized (pm_nm Y).cls)) && (decide ((pm_nm Y).cls = pm_cn (pm_oc Y)) && (decide (plainFor (pm_nm Y) = true) && (decide ((pm_nm Y).cls ≠ "java/lang/invoke/MethodHandle" ∧ (pm_nm Y).cls ≠ "java/lang/invoke/VarHandle") && (decide ((parseMethodDescriptor (pm_nm Y).desc).map (fun d => d.parameters.length) = some (pm_np Y)) && (Nat.ble (pm_ml Y) 80 && (match pm_kd Y with
  | 0 => decide (tables_1[pm_p2 Y]? = some (.instanceMethod (pm_nm Y))) && cond (Nat.blt (pm_p3 Y) 5000) (decide (tables_1[pm_p3 Y]? = some (.selects (pm_nm Y).cls (pm_nm Y) (pm_nm Y)))) (decide ((lw_privs[pm_p3 Y - 5000]?).map Prod.fst = some (pm_nm Y)))
  | 1 => decide (tables_1[pm_p2 Y]? = some (.static (pm_nm Y)))
  | _ => decide (tables_1[pm_p2 Y]? = some (.instanceMethod (pm_nm Y))) && (decide ((pm_nm Y).name = "<init>") && decide (pm_rt Y = none)))))))))
set_option maxRecDepth 8000 in
theorem cw_Ph_init : Cond.code (pm_nm m_Ph_init) (pm_by m_Ph_init) (pm_ml m_Ph_init) (pm_rt m_Ph_init) ∈ tables_1 := tj1 (List.mem_of_getElem? (i := 25) rfl)
theorem okW_Ph_init : pm_okV m_Ph_init = true := by decide +kernel
set_option maxRecDepth 8000 in
theorem cw_Ta_init : Cond.code (pm_nm m_Ta_init) (pm_by m_Ta_init) (pm_ml m_Ta_init) (pm_rt m_Ta_init) ∈ tables_1 := tj1 (List.mem_of_getElem? (i := 33) rfl)
theorem okW_Ta_init : pm_okV m_Ta_init = true := by decide +kernel
set_option maxRecDepth 8000 in
theorem cw_Ro_init : Cond.code (pm_nm m_Ro_init) (pm_by m_Ro_init) (pm_ml m_Ro_init) (pm_rt m_Ro_init) ∈ tables_1 := tj1 (List.mem_of_getElem? (i := 56) rfl)
theorem okW_Ro_init : pm_okV m_Ro_init = true := by decide +kernel
set_option maxRecDepth 8000 in
theorem cw_Fo_init : Cond.code (pm_nm m_Fo_init) (pm_by m_Fo_init) (pm_ml m_Fo_init) (pm_rt m_Fo_init) ∈ tables_1 := tj1 (List.mem_of_getElem? (i := 102) rfl)
theorem okW_Fo_init : pm_okV m_Fo_init = true := by decide +kernel
set_option maxRecDepth 8000 in
theorem cw_Fo_foldSheet : Cond.code (pm_nm m_Fo_foldSheet) (pm_by m_Fo_foldSheet) (pm_ml m_Fo_foldSheet) (pm_rt m_Fo_foldSheet) ∈ tables_1 := tj1 (List.mem_of_getElem? (i := 107) rfl)
theorem okW_Fo_foldSheet : pm_okV m_Fo_foldSheet = true := by decide +kernel
set_option maxRecDepth 8000 in
theorem cw_Fo_foldOver : Cond.code (pm_nm m_Fo_foldOver) (pm_by m_Fo_foldOver) (pm_ml m_Fo_foldOver) (pm_rt m_Fo_foldOver) ∈ tables_1 := tj1 (List.mem_of_getElem? (i := 111) rfl)
theorem okW_Fo_foldOver : pm_okV m_Fo_foldOver = true := by decide +kernel
set_option maxRecDepth 8000 in
theorem cw_Fo_isAcross : Cond.code (pm_nm m_Fo_isAcross) (pm_by m_Fo_isAcross) (pm_ml m_Fo_isAcross) (pm_rt m_Fo_isAcross) ∈ tables_1 := tj1 (List.mem_of_getElem? (i := 117) rfl)
theorem okW_Fo_isAcross : pm_okV m_Fo_isAcross = true := by decide +kernel
set_option maxRecDepth 8000 in
theorem cw_Fo_layOver : Cond.code (pm_nm m_Fo_layOver) (pm_by m_Fo_layOver) (pm_ml m_Fo_layOver) (pm_rt m_Fo_layOver) ∈ tables_1 := tj1 (List.mem_of_getElem? (i := 121) rfl)
theorem okW_Fo_layOver : pm_okV m_Fo_layOver = true := by decide +kernel
set_option maxRecDepth 8000 in
theorem cw_Fo_leaves : Cond.code (pm_nm m_Fo_leaves) (pm_by m_Fo_leaves) (pm_ml m_Fo_leaves) (pm_rt m_Fo_leaves) ∈ tables_1 := tj1 (List.mem_of_getElem? (i := 125) rfl)
theorem okW_Fo_leaves : pm_okV m_Fo_leaves = true := by decide +kernel
set_option maxRecDepth 8000 in
theorem cw_Pl_init : Cond.code (pm_nm m_Pl_init) (pm_by m_Pl_init) (pm_ml m_Pl_init) (pm_rt m_Pl_init) ∈ tables_1 := tj1 (List.mem_of_getElem? (i := 173) rfl)
theorem okW_Pl_init : pm_okV m_Pl_init = true := by decide +kernel
set_option maxRecDepth 8000 in
theorem cw_Pr_init : Cond.code (pm_nm m_Pr_init) (pm_by m_Pr_init) (pm_ml m_Pr_init) (pm_rt m_Pr_init) ∈ tables_1 := tj1 (List.mem_of_getElem? (i := 186) rfl)
theorem okW_Pr_init : pm_okV m_Pr_init = true := by decide +kernel
set_option maxRecDepth 8000 in
theorem cw_Ty_init : Cond.code (pm_nm m_Ty_init) (pm_by m_Ty_init) (pm_ml m_Ty_init) (pm_rt m_Ty_init) ∈ tables_1 := tj1 (List.mem_of_getElem? (i := 235) rfl)
theorem okW_Ty_init : pm_okV m_Ty_init = true := by decide +kernel
set_option maxRecDepth 8000 in
theorem cw_Tl_init : Cond.code (pm_nm m_Tl_init) (pm_by m_Tl_init) (pm_ml m_Tl_init) (pm_rt m_Tl_init) ∈ tables_1 := tj2 (List.mem_of_getElem? (i := 4) rfl)
theorem okW_Tl_init : pm_okV m_Tl_init = true := by decide +kernel
set_option maxRecDepth 8000 in
theorem cw_Ma_init : Cond.code (pm_nm m_Ma_init) (pm_by m_Ma_init) (pm_ml m_Ma_init) (pm_rt m_Ma_init) ∈ tables_1 := tj2 (List.mem_of_getElem? (i := 63) rfl)
theorem okW_Ma_init : pm_okV m_Ma_init = true := by decide +kernel
set_option maxRecDepth 8000 in
theorem cw_Bu_init : Cond.code (pm_nm m_Bu_init) (pm_by m_Bu_init) (pm_ml m_Bu_init) (pm_rt m_Bu_init) ∈ tables_1 := tj2 (List.mem_of_getElem? (i := 95) rfl)
theorem okW_Bu_init : pm_okV m_Bu_init = true := by decide +kernel
set_option maxRecDepth 8000 in
theorem cw_Wo_init : Cond.code (pm_nm m_Wo_init) (pm_by m_Wo_init) (pm_ml m_Wo_init) (pm_rt m_Wo_init) ∈ tables_1 := tj2 (List.mem_of_getElem? (i := 129) rfl)
theorem okW_Wo_init : pm_okV m_Wo_init = true := by decide +kernel
set_option maxRecDepth 8000 in
theorem cw_Pi_init : Cond.code (pm_nm m_Pi_init) (pm_by m_Pi_init) (pm_ml m_Pi_init) (pm_rt m_Pi_init) ∈ tables_1 := tj2 (List.mem_of_getElem? (i := 182) rfl)
theorem okW_Pi_init : pm_okV m_Pi_init = true := by decide +kernel
set_option maxRecDepth 8000 in
theorem cw_Ph_feed : Cond.code (pm_nm m_Ph_feed) (pm_by m_Ph_feed) (pm_ml m_Ph_feed) (pm_rt m_Ph_feed) ∈ tables_1 := tj2 (List.mem_of_getElem? (i := 237) rfl)
theorem okW_Ph_feed : pm_okV m_Ph_feed = true := by decide +kernel
set_option maxRecDepth 8000 in
theorem cw_Ta_hasRoomFor : Cond.code (pm_nm m_Ta_hasRoomFor) (pm_by m_Ta_hasRoomFor) (pm_ml m_Ta_hasRoomFor) (pm_rt m_Ta_hasRoomFor) ∈ tables_1 := tj3 (List.mem_of_getElem? (i := 1) rfl)
theorem okW_Ta_hasRoomFor : pm_okV m_Ta_hasRoomFor = true := by decide +kernel
set_option maxRecDepth 8000 in
theorem cw_Ta_append : Cond.code (pm_nm m_Ta_append) (pm_by m_Ta_append) (pm_ml m_Ta_append) (pm_rt m_Ta_append) ∈ tables_1 := tj3 (List.mem_of_getElem? (i := 5) rfl)
theorem okW_Ta_append : pm_okV m_Ta_append = true := by decide +kernel
set_option maxRecDepth 8000 in
theorem cw_Ta_length : Cond.code (pm_nm m_Ta_length) (pm_by m_Ta_length) (pm_ml m_Ta_length) (pm_rt m_Ta_length) ∈ tables_1 := tj3 (List.mem_of_getElem? (i := 9) rfl)
theorem okW_Ta_length : pm_okV m_Ta_length = true := by decide +kernel
set_option maxRecDepth 8000 in
theorem cw_Ph_end : Cond.code (pm_nm m_Ph_end) (pm_by m_Ph_end) (pm_ml m_Ph_end) (pm_rt m_Ph_end) ∈ tables_1 := tj3 (List.mem_of_getElem? (i := 13) rfl)
theorem okW_Ph_end : pm_okV m_Ph_end = true := by decide +kernel
set_option maxRecDepth 8000 in
theorem cw_Ta_shorten : Cond.code (pm_nm m_Ta_shorten) (pm_by m_Ta_shorten) (pm_ml m_Ta_shorten) (pm_rt m_Ta_shorten) ∈ tables_1 := tj3 (List.mem_of_getElem? (i := 17) rfl)
theorem okW_Ta_shorten : pm_okV m_Ta_shorten = true := by decide +kernel
set_option maxRecDepth 8000 in
theorem cw_Ph_cut : Cond.code (pm_nm m_Ph_cut) (pm_by m_Ph_cut) (pm_ml m_Ph_cut) (pm_rt m_Ph_cut) ∈ tables_1 := tj3 (List.mem_of_getElem? (i := 21) rfl)
theorem okW_Ph_cut : pm_okV m_Ph_cut = true := by decide +kernel
set_option maxRecDepth 8000 in
theorem cw_Ta_open : Cond.code (pm_nm m_Ta_open) (pm_by m_Ta_open) (pm_ml m_Ta_open) (pm_rt m_Ta_open) ∈ tables_1 := tj3 (List.mem_of_getElem? (i := 25) rfl)
theorem okW_Ta_open : pm_okV m_Ta_open = true := by decide +kernel
set_option maxRecDepth 8000 in
theorem cw_Ro_takeText : Cond.code (pm_nm m_Ro_takeText) (pm_by m_Ro_takeText) (pm_ml m_Ro_takeText) (pm_rt m_Ro_takeText) ∈ tables_1 := tj3 (List.mem_of_getElem? (i := 29) rfl)
theorem okW_Ro_takeText : pm_okV m_Ro_takeText = true := by decide +kernel
set_option maxRecDepth 8000 in
theorem cw_Ta_readKeyword : Cond.code (pm_nm m_Ta_readKeyword) (pm_by m_Ta_readKeyword) (pm_ml m_Ta_readKeyword) (pm_rt m_Ta_readKeyword) ∈ tables_1 := tj3 (List.mem_of_getElem? (i := 34) rfl)
theorem okW_Ta_readKeyword : pm_okV m_Ta_readKeyword = true := by decide +kernel
set_option maxRecDepth 8000 in
theorem cw_Ta_readLetters : Cond.code (pm_nm m_Ta_readLetters) (pm_by m_Ta_readLetters) (pm_ml m_Ta_readLetters) (pm_rt m_Ta_readLetters) ∈ tables_1 := tj3 (List.mem_of_getElem? (i := 38) rfl)
theorem okW_Ta_readLetters : pm_okV m_Ta_readLetters = true := by decide +kernel
set_option maxRecDepth 8000 in
theorem cw_Ta_next : Cond.code (pm_nm m_Ta_next) (pm_by m_Ta_next) (pm_ml m_Ta_next) (pm_rt m_Ta_next) ∈ tables_1 := tj3 (List.mem_of_getElem? (i := 42) rfl)
theorem okW_Ta_next : pm_okV m_Ta_next = true := by decide +kernel
set_option maxRecDepth 8000 in
theorem cw_Ta_isLetter : Cond.code (pm_nm m_Ta_isLetter) (pm_by m_Ta_isLetter) (pm_ml m_Ta_isLetter) (pm_rt m_Ta_isLetter) ∈ tables_1 := tj3 (List.mem_of_getElem? (i := 45) rfl)
theorem okW_Ta_isLetter : pm_okV m_Ta_isLetter = true := by decide +kernel
set_option maxRecDepth 8000 in
theorem cw_Ta_isDigit : Cond.code (pm_nm m_Ta_isDigit) (pm_by m_Ta_isDigit) (pm_ml m_Ta_isDigit) (pm_rt m_Ta_isDigit) ∈ tables_1 := tj3 (List.mem_of_getElem? (i := 48) rfl)
theorem okW_Ta_isDigit : pm_okV m_Ta_isDigit = true := by decide +kernel
set_option maxRecDepth 8000 in
theorem cw_Ta_blame : Cond.code (pm_nm m_Ta_blame) (pm_by m_Ta_blame) (pm_ml m_Ta_blame) (pm_rt m_Ta_blame) ∈ tables_1 := tj3 (List.mem_of_getElem? (i := 52) rfl)
theorem okW_Ta_blame : pm_okV m_Ta_blame = true := by decide +kernel
set_option maxRecDepth 8000 in
theorem cw_Ta_wordIs : Cond.code (pm_nm m_Ta_wordIs) (pm_by m_Ta_wordIs) (pm_ml m_Ta_wordIs) (pm_rt m_Ta_wordIs) ∈ tables_1 := tj3 (List.mem_of_getElem? (i := 56) rfl)
theorem okW_Ta_wordIs : pm_okV m_Ta_wordIs = true := by decide +kernel
set_option maxRecDepth 8000 in
theorem cw_Ta_byteAt : Cond.code (pm_nm m_Ta_byteAt) (pm_by m_Ta_byteAt) (pm_ml m_Ta_byteAt) (pm_rt m_Ta_byteAt) ∈ tables_1 := tj3 (List.mem_of_getElem? (i := 70) rfl)
theorem okW_Ta_byteAt : pm_okV m_Ta_byteAt = true := by decide +kernel
set_option maxRecDepth 8000 in
theorem cw_Ta_blameToken : Cond.code (pm_nm m_Ta_blameToken) (pm_by m_Ta_blameToken) (pm_ml m_Ta_blameToken) (pm_rt m_Ta_blameToken) ∈ tables_1 := tj3 (List.mem_of_getElem? (i := 112) rfl)
theorem okW_Ta_blameToken : pm_okV m_Ta_blameToken = true := by decide +kernel
set_option maxRecDepth 8000 in
theorem cw_Ta_readNextNumber : Cond.code (pm_nm m_Ta_readNextNumber) (pm_by m_Ta_readNextNumber) (pm_ml m_Ta_readNextNumber) (pm_rt m_Ta_readNextNumber) ∈ tables_1 := tj3 (List.mem_of_getElem? (i := 116) rfl)
theorem okW_Ta_readNextNumber : pm_okV m_Ta_readNextNumber = true := by decide +kernel
set_option maxRecDepth 8000 in
theorem cw_Ta_expect : Cond.code (pm_nm m_Ta_expect) (pm_by m_Ta_expect) (pm_ml m_Ta_expect) (pm_rt m_Ta_expect) ∈ tables_1 := tj3 (List.mem_of_getElem? (i := 120) rfl)
theorem okW_Ta_expect : pm_okV m_Ta_expect = true := by decide +kernel
set_option maxRecDepth 8000 in
theorem cw_Ta_takes : Cond.code (pm_nm m_Ta_takes) (pm_by m_Ta_takes) (pm_ml m_Ta_takes) (pm_rt m_Ta_takes) ∈ tables_1 := tj3 (List.mem_of_getElem? (i := 124) rfl)
theorem okW_Ta_takes : pm_okV m_Ta_takes = true := by decide +kernel
set_option maxRecDepth 8000 in
theorem cw_Ta_hasMore : Cond.code (pm_nm m_Ta_hasMore) (pm_by m_Ta_hasMore) (pm_ml m_Ta_hasMore) (pm_rt m_Ta_hasMore) ∈ tables_1 := tj3 (List.mem_of_getElem? (i := 128) rfl)
theorem okW_Ta_hasMore : pm_okV m_Ta_hasMore = true := by decide +kernel
set_option maxRecDepth 8000 in
theorem cw_Ta_readNumber : Cond.code (pm_nm m_Ta_readNumber) (pm_by m_Ta_readNumber) (pm_ml m_Ta_readNumber) (pm_rt m_Ta_readNumber) ∈ tables_1 := tj3 (List.mem_of_getElem? (i := 132) rfl)
theorem okW_Ta_readNumber : pm_okV m_Ta_readNumber = true := by decide +kernel
set_option maxRecDepth 8000 in
theorem cw_Ro_readLine : Cond.code (pm_nm m_Ro_readLine) (pm_by m_Ro_readLine) (pm_ml m_Ro_readLine) (pm_rt m_Ro_readLine) ∈ tables_1 := tj3 (List.mem_of_getElem? (i := 137) rfl)
theorem okW_Ro_readLine : pm_okV m_Ro_readLine = true := by decide +kernel
set_option maxRecDepth 8000 in
theorem cw_Jm_min_II : Cond.code (pm_nm m_Jm_min_II) (pm_by m_Jm_min_II) (pm_ml m_Jm_min_II) (pm_rt m_Jm_min_II) ∈ tables_1 := tj3 (List.mem_of_getElem? (i := 142) rfl)
theorem okW_Jm_min_II : pm_okV m_Jm_min_II = true := by decide +kernel
set_option maxRecDepth 8000 in
theorem cw_Ta_finish : Cond.code (pm_nm m_Ta_finish) (pm_by m_Ta_finish) (pm_ml m_Ta_finish) (pm_rt m_Ta_finish) ∈ tables_1 := tj3 (List.mem_of_getElem? (i := 147) rfl)
theorem okW_Ta_finish : pm_okV m_Ta_finish = true := by decide +kernel
set_option maxRecDepth 8000 in
theorem cw_Ta_isRight : Cond.code (pm_nm m_Ta_isRight) (pm_by m_Ta_isRight) (pm_ml m_Ta_isRight) (pm_rt m_Ta_isRight) ∈ tables_1 := tj3 (List.mem_of_getElem? (i := 151) rfl)
theorem okW_Ta_isRight : pm_okV m_Ta_isRight = true := by decide +kernel
set_option maxRecDepth 8000 in
theorem cw_Ro_adopt : Cond.code (pm_nm m_Ro_adopt) (pm_by m_Ro_adopt) (pm_ml m_Ro_adopt) (pm_rt m_Ro_adopt) ∈ tables_1 := tj3 (List.mem_of_getElem? (i := 155) rfl)
theorem okW_Ro_adopt : pm_okV m_Ro_adopt = true := by decide +kernel
set_option maxRecDepth 8000 in
theorem cw_Ro_countFewest : Cond.code (pm_nm m_Ro_countFewest) (pm_by m_Ro_countFewest) (pm_ml m_Ro_countFewest) (pm_rt m_Ro_countFewest) ∈ tables_1 := tj3 (List.mem_of_getElem? (i := 159) rfl)
theorem okW_Ro_countFewest : pm_okV m_Ro_countFewest = true := by decide +kernel
set_option maxRecDepth 8000 in
theorem cw_Ro_wholeState : Cond.code (pm_nm m_Ro_wholeState) (pm_by m_Ro_wholeState) (pm_ml m_Ro_wholeState) (pm_rt m_Ro_wholeState) ∈ tables_1 := tj3 (List.mem_of_getElem? (i := 163) rfl)
theorem okW_Ro_wholeState : pm_okV m_Ro_wholeState = true := by decide +kernel
set_option maxRecDepth 8000 in
theorem cw_Ro_stepOpen : Cond.code (pm_nm m_Ro_stepOpen) (pm_by m_Ro_stepOpen) (pm_ml m_Ro_stepOpen) (pm_rt m_Ro_stepOpen) ∈ tables_1 := tj3 (List.mem_of_getElem? (i := 167) rfl)
theorem okW_Ro_stepOpen : pm_okV m_Ro_stepOpen = true := by decide +kernel
set_option maxRecDepth 8000 in
theorem cw_Ro_onePiece : Cond.code (pm_nm m_Ro_onePiece) (pm_by m_Ro_onePiece) (pm_ml m_Ro_onePiece) (pm_rt m_Ro_onePiece) ∈ tables_1 := tj3 (List.mem_of_getElem? (i := 171) rfl)
theorem okW_Ro_onePiece : pm_okV m_Ro_onePiece = true := by decide +kernel
set_option maxRecDepth 8000 in
theorem cw_Jm_max : Cond.code (pm_nm m_Jm_max) (pm_by m_Jm_max) (pm_ml m_Jm_max) (pm_rt m_Jm_max) ∈ tables_1 := tj3 (List.mem_of_getElem? (i := 174) rfl)
theorem okW_Jm_max : pm_okV m_Jm_max = true := by decide +kernel
set_option maxRecDepth 8000 in
theorem cw_Ro_reaches : Cond.code (pm_nm m_Ro_reaches) (pm_by m_Ro_reaches) (pm_ml m_Ro_reaches) (pm_rt m_Ro_reaches) ∈ tables_1 := tj3 (List.mem_of_getElem? (i := 178) rfl)
theorem okW_Ro_reaches : pm_okV m_Ro_reaches = true := by decide +kernel
set_option maxRecDepth 8000 in
theorem cw_Ro_mostOf : Cond.code (pm_nm m_Ro_mostOf) (pm_by m_Ro_mostOf) (pm_ml m_Ro_mostOf) (pm_rt m_Ro_mostOf) ∈ tables_1 := tj3 (List.mem_of_getElem? (i := 182) rfl)
theorem okW_Ro_mostOf : pm_okV m_Ro_mostOf = true := by decide +kernel
set_option maxRecDepth 8000 in
theorem cw_Ro_makePlan : Cond.code (pm_nm m_Ro_makePlan) (pm_by m_Ro_makePlan) (pm_ml m_Ro_makePlan) (pm_rt m_Ro_makePlan) ∈ tables_1 := tj3 (List.mem_of_getElem? (i := 186) rfl)
theorem okW_Ro_makePlan : pm_okV m_Ro_makePlan = true := by decide +kernel
set_option maxRecDepth 8000 in
theorem cw_Ta_close : Cond.code (pm_nm m_Ta_close) (pm_by m_Ta_close) (pm_ml m_Ta_close) (pm_rt m_Ta_close) ∈ tables_1 := tj3 (List.mem_of_getElem? (i := 190) rfl)
theorem okW_Ta_close : pm_okV m_Ta_close = true := by decide +kernel
set_option maxRecDepth 8000 in
theorem cw_Ph_pattern : Cond.code (pm_nm m_Ph_pattern) (pm_by m_Ph_pattern) (pm_ml m_Ph_pattern) (pm_rt m_Ph_pattern) ∈ tables_1 := tj3 (List.mem_of_getElem? (i := 196) rfl)
theorem okW_Ph_pattern : pm_okV m_Ph_pattern = true := by decide +kernel
set_option maxRecDepth 8000 in
theorem cw_Ro_tell : Cond.code (pm_nm m_Ro_tell) (pm_by m_Ro_tell) (pm_ml m_Ro_tell) (pm_rt m_Ro_tell) ∈ tables_1 := tj3 (List.mem_of_getElem? (i := 200) rfl)
theorem okW_Ro_tell : pm_okV m_Ro_tell = true := by decide +kernel
set_option maxRecDepth 8000 in
theorem cw_Ro_lostOf : Cond.code (pm_nm m_Ro_lostOf) (pm_by m_Ro_lostOf) (pm_ml m_Ro_lostOf) (pm_rt m_Ro_lostOf) ∈ tables_1 := tj3 (List.mem_of_getElem? (i := 204) rfl)
theorem okW_Ro_lostOf : pm_okV m_Ro_lostOf = true := by decide +kernel
set_option maxRecDepth 8000 in
theorem cw_Ph_fold : Cond.code (pm_nm m_Ph_fold) (pm_by m_Ph_fold) (pm_ml m_Ph_fold) (pm_rt m_Ph_fold) ∈ tables_1 := tj3 (List.mem_of_getElem? (i := 208) rfl)
theorem okW_Ph_fold : pm_okV m_Ph_fold = true := by decide +kernel
set_option maxRecDepth 8000 in
theorem cw_Fo_takeText : Cond.code (pm_nm m_Fo_takeText) (pm_by m_Fo_takeText) (pm_ml m_Fo_takeText) (pm_rt m_Fo_takeText) ∈ tables_1 := tj3 (List.mem_of_getElem? (i := 212) rfl)
theorem okW_Fo_takeText : pm_okV m_Fo_takeText = true := by decide +kernel
set_option maxRecDepth 8000 in
theorem cw_Fo_readSide : Cond.code (pm_nm m_Fo_readSide) (pm_by m_Fo_readSide) (pm_ml m_Fo_readSide) (pm_rt m_Fo_readSide) ∈ tables_1 := tj3 (List.mem_of_getElem? (i := 218) rfl)
theorem okW_Fo_readSide : pm_okV m_Fo_readSide = true := by decide +kernel
set_option maxRecDepth 8000 in
theorem cw_Fo_halvings : Cond.code (pm_nm m_Fo_halvings) (pm_by m_Fo_halvings) (pm_ml m_Fo_halvings) (pm_rt m_Fo_halvings) ∈ tables_1 := tj3 (List.mem_of_getElem? (i := 225) rfl)
theorem okW_Fo_halvings : pm_okV m_Fo_halvings = true := by decide +kernel
set_option maxRecDepth 8000 in
theorem cw_Fo_readFolds : Cond.code (pm_nm m_Fo_readFolds) (pm_by m_Fo_readFolds) (pm_ml m_Fo_readFolds) (pm_rt m_Fo_readFolds) ∈ tables_1 := tj3 (List.mem_of_getElem? (i := 229) rfl)
theorem okW_Fo_readFolds : pm_okV m_Fo_readFolds = true := by decide +kernel
set_option maxRecDepth 8000 in
theorem cw_Fo_isDown : Cond.code (pm_nm m_Fo_isDown) (pm_by m_Fo_isDown) (pm_ml m_Fo_isDown) (pm_rt m_Fo_isDown) ∈ tables_1 := tj3 (List.mem_of_getElem? (i := 234) rfl)
theorem okW_Fo_isDown : pm_okV m_Fo_isDown = true := by decide +kernel
set_option maxRecDepth 8000 in
theorem cw_Ta_place : Cond.code (pm_nm m_Ta_place) (pm_by m_Ta_place) (pm_ml m_Ta_place) (pm_rt m_Ta_place) ∈ tables_1 := tj3 (List.mem_of_getElem? (i := 238) rfl)
theorem okW_Ta_place : pm_okV m_Ta_place = true := by decide +kernel
set_option maxRecDepth 8000 in
theorem cw_Ph_book : Cond.code (pm_nm m_Ph_book) (pm_by m_Ph_book) (pm_ml m_Ph_book) (pm_rt m_Ph_book) ∈ tables_1 := tj4 (List.mem_of_getElem? (i := 5) rfl)
theorem okW_Ph_book : pm_okV m_Ph_book = true := by decide +kernel
set_option maxRecDepth 8000 in
theorem cw_Fo_bind : Cond.code (pm_nm m_Fo_bind) (pm_by m_Fo_bind) (pm_ml m_Fo_bind) (pm_rt m_Fo_bind) ∈ tables_1 := tj4 (List.mem_of_getElem? (i := 9) rfl)
theorem okW_Fo_bind : pm_okV m_Fo_bind = true := by decide +kernel
set_option maxRecDepth 8000 in
theorem cw_Ph_page : Cond.code (pm_nm m_Ph_page) (pm_by m_Ph_page) (pm_ml m_Ph_page) (pm_rt m_Ph_page) ∈ tables_1 := tj4 (List.mem_of_getElem? (i := 13) rfl)
theorem okW_Ph_page : pm_okV m_Ph_page = true := by decide +kernel
set_option maxRecDepth 8000 in
theorem cw_Fo_hasPanel : Cond.code (pm_nm m_Fo_hasPanel) (pm_by m_Fo_hasPanel) (pm_ml m_Fo_hasPanel) (pm_rt m_Fo_hasPanel) ∈ tables_1 := tj4 (List.mem_of_getElem? (i := 17) rfl)
theorem okW_Fo_hasPanel : pm_okV m_Fo_hasPanel = true := by decide +kernel
set_option maxRecDepth 8000 in
theorem cw_Fo_hasSide : Cond.code (pm_nm m_Fo_hasSide) (pm_by m_Fo_hasSide) (pm_ml m_Fo_hasSide) (pm_rt m_Fo_hasSide) ∈ tables_1 := tj4 (List.mem_of_getElem? (i := 21) rfl)
theorem okW_Fo_hasSide : pm_okV m_Fo_hasSide = true := by decide +kernel
set_option maxRecDepth 8000 in
theorem cw_Fo_isPanel : Cond.code (pm_nm m_Fo_isPanel) (pm_by m_Fo_isPanel) (pm_ml m_Fo_isPanel) (pm_rt m_Fo_isPanel) ∈ tables_1 := tj4 (List.mem_of_getElem? (i := 25) rfl)
theorem okW_Fo_isPanel : pm_okV m_Fo_isPanel = true := by decide +kernel
set_option maxRecDepth 8000 in
theorem cw_Fo_pageOn : Cond.code (pm_nm m_Fo_pageOn) (pm_by m_Fo_pageOn) (pm_ml m_Fo_pageOn) (pm_rt m_Fo_pageOn) ∈ tables_1 := tj4 (List.mem_of_getElem? (i := 29) rfl)
theorem okW_Fo_pageOn : pm_okV m_Fo_pageOn = true := by decide +kernel
set_option maxRecDepth 8000 in
theorem cw_Fo_placeOf : Cond.code (pm_nm m_Fo_placeOf) (pm_by m_Fo_placeOf) (pm_ml m_Fo_placeOf) (pm_rt m_Fo_placeOf) ∈ tables_1 := tj4 (List.mem_of_getElem? (i := 34) rfl)
theorem okW_Fo_placeOf : pm_okV m_Fo_placeOf = true := by decide +kernel
set_option maxRecDepth 8000 in
theorem cw_Fo_isUpsideDown : Cond.code (pm_nm m_Fo_isUpsideDown) (pm_by m_Fo_isUpsideDown) (pm_ml m_Fo_isUpsideDown) (pm_rt m_Fo_isUpsideDown) ∈ tables_1 := tj4 (List.mem_of_getElem? (i := 38) rfl)
theorem okW_Fo_isUpsideDown : pm_okV m_Fo_isUpsideDown = true := by decide +kernel
set_option maxRecDepth 8000 in
theorem cw_Ph_where : Cond.code (pm_nm m_Ph_where) (pm_by m_Ph_where) (pm_ml m_Ph_where) (pm_rt m_Ph_where) ∈ tables_1 := tj4 (List.mem_of_getElem? (i := 42) rfl)
theorem okW_Ph_where : pm_okV m_Ph_where = true := by decide +kernel
set_option maxRecDepth 8000 in
theorem cw_Fo_find : Cond.code (pm_nm m_Fo_find) (pm_by m_Fo_find) (pm_ml m_Fo_find) (pm_rt m_Fo_find) ∈ tables_1 := tj4 (List.mem_of_getElem? (i := 46) rfl)
theorem okW_Fo_find : pm_okV m_Fo_find = true := by decide +kernel
set_option maxRecDepth 8000 in
theorem cw_Fo_tellPanel : Cond.code (pm_nm m_Fo_tellPanel) (pm_by m_Fo_tellPanel) (pm_ml m_Fo_tellPanel) (pm_rt m_Fo_tellPanel) ∈ tables_1 := tj4 (List.mem_of_getElem? (i := 51) rfl)
theorem okW_Fo_tellPanel : pm_okV m_Fo_tellPanel = true := by decide +kernel
set_option maxRecDepth 8000 in
theorem cw_Ph_draw : Cond.code (pm_nm m_Ph_draw) (pm_by m_Ph_draw) (pm_ml m_Ph_draw) (pm_rt m_Ph_draw) ∈ tables_1 := tj4 (List.mem_of_getElem? (i := 55) rfl)
theorem okW_Ph_draw : pm_okV m_Ph_draw = true := by decide +kernel
set_option maxRecDepth 8000 in
theorem cw_Pl_takeText : Cond.code (pm_nm m_Pl_takeText) (pm_by m_Pl_takeText) (pm_ml m_Pl_takeText) (pm_rt m_Pl_takeText) ∈ tables_1 := tj4 (List.mem_of_getElem? (i := 59) rfl)
theorem okW_Pl_takeText : pm_okV m_Pl_takeText = true := by decide +kernel
set_option maxRecDepth 8000 in
theorem cw_Pl_readLine : Cond.code (pm_nm m_Pl_readLine) (pm_by m_Pl_readLine) (pm_ml m_Pl_readLine) (pm_rt m_Pl_readLine) ∈ tables_1 := tj4 (List.mem_of_getElem? (i := 63) rfl)
theorem okW_Pl_readLine : pm_okV m_Pl_readLine = true := by decide +kernel
set_option maxRecDepth 8000 in
theorem cw_Ta_readEither : Cond.code (pm_nm m_Ta_readEither) (pm_by m_Ta_readEither) (pm_ml m_Ta_readEither) (pm_rt m_Ta_readEither) ∈ tables_1 := tj4 (List.mem_of_getElem? (i := 69) rfl)
theorem okW_Ta_readEither : pm_okV m_Ta_readEither = true := by decide +kernel
set_option maxRecDepth 8000 in
theorem cw_Pl_readStroke : Cond.code (pm_nm m_Pl_readStroke) (pm_by m_Pl_readStroke) (pm_ml m_Pl_readStroke) (pm_rt m_Pl_readStroke) ∈ tables_1 := tj4 (List.mem_of_getElem? (i := 73) rfl)
theorem okW_Pl_readStroke : pm_okV m_Pl_readStroke = true := by decide +kernel
set_option maxRecDepth 8000 in
theorem cw_Pl_paint : Cond.code (pm_nm m_Pl_paint) (pm_by m_Pl_paint) (pm_ml m_Pl_paint) (pm_rt m_Pl_paint) ∈ tables_1 := tj4 (List.mem_of_getElem? (i := 82) rfl)
theorem okW_Pl_paint : pm_okV m_Pl_paint = true := by decide +kernel
set_option maxRecDepth 8000 in
theorem cw_Pl_readBox : Cond.code (pm_nm m_Pl_readBox) (pm_by m_Pl_readBox) (pm_ml m_Pl_readBox) (pm_rt m_Pl_readBox) ∈ tables_1 := tj4 (List.mem_of_getElem? (i := 86) rfl)
theorem okW_Pl_readBox : pm_okV m_Pl_readBox = true := by decide +kernel
set_option maxRecDepth 8000 in
theorem cw_Ph_point : Cond.code (pm_nm m_Ph_point) (pm_by m_Ph_point) (pm_ml m_Ph_point) (pm_rt m_Ph_point) ∈ tables_1 := tj4 (List.mem_of_getElem? (i := 93) rfl)
theorem okW_Ph_point : pm_okV m_Ph_point = true := by decide +kernel
set_option maxRecDepth 8000 in
theorem cw_Pl_pointAt : Cond.code (pm_nm m_Pl_pointAt) (pm_by m_Pl_pointAt) (pm_ml m_Pl_pointAt) (pm_rt m_Pl_pointAt) ∈ tables_1 := tj4 (List.mem_of_getElem? (i := 97) rfl)
theorem okW_Pl_pointAt : pm_okV m_Pl_pointAt = true := by decide +kernel
set_option maxRecDepth 8000 in
theorem cw_Fo_columns : Cond.code (pm_nm m_Fo_columns) (pm_by m_Fo_columns) (pm_ml m_Fo_columns) (pm_rt m_Fo_columns) ∈ tables_1 := tj4 (List.mem_of_getElem? (i := 101) rfl)
theorem okW_Fo_columns : pm_okV m_Fo_columns = true := by decide +kernel
set_option maxRecDepth 8000 in
theorem cw_Fo_rows : Cond.code (pm_nm m_Fo_rows) (pm_by m_Fo_rows) (pm_ml m_Fo_rows) (pm_rt m_Fo_rows) ∈ tables_1 := tj4 (List.mem_of_getElem? (i := 105) rfl)
theorem okW_Fo_rows : pm_okV m_Fo_rows = true := by decide +kernel
set_option maxRecDepth 8000 in
theorem cw_Pl_panelColumn : Cond.code (pm_nm m_Pl_panelColumn) (pm_by m_Pl_panelColumn) (pm_ml m_Pl_panelColumn) (pm_rt m_Pl_panelColumn) ∈ tables_1 := tj4 (List.mem_of_getElem? (i := 109) rfl)
theorem okW_Pl_panelColumn : pm_okV m_Pl_panelColumn = true := by decide +kernel
set_option maxRecDepth 8000 in
theorem cw_Pl_inked : Cond.code (pm_nm m_Pl_inked) (pm_by m_Pl_inked) (pm_ml m_Pl_inked) (pm_rt m_Pl_inked) ∈ tables_1 := tj4 (List.mem_of_getElem? (i := 115) rfl)
theorem okW_Pl_inked : pm_okV m_Pl_inked = true := by decide +kernel
set_option maxRecDepth 8000 in
theorem cw_Ph_mount : Cond.code (pm_nm m_Ph_mount) (pm_by m_Ph_mount) (pm_ml m_Ph_mount) (pm_rt m_Ph_mount) ∈ tables_1 := tj4 (List.mem_of_getElem? (i := 121) rfl)
theorem okW_Ph_mount : pm_okV m_Ph_mount = true := by decide +kernel
set_option maxRecDepth 8000 in
theorem cw_Pr_clear : Cond.code (pm_nm m_Pr_clear) (pm_by m_Pr_clear) (pm_ml m_Pr_clear) (pm_rt m_Pr_clear) ∈ tables_1 := tj4 (List.mem_of_getElem? (i := 127) rfl)
theorem okW_Pr_clear : pm_okV m_Pr_clear = true := by decide +kernel
set_option maxRecDepth 8000 in
theorem cw_Pl_coverageOf : Cond.code (pm_nm m_Pl_coverageOf) (pm_by m_Pl_coverageOf) (pm_ml m_Pl_coverageOf) (pm_rt m_Pl_coverageOf) ∈ tables_1 := tj4 (List.mem_of_getElem? (i := 132) rfl)
theorem okW_Pl_coverageOf : pm_okV m_Pl_coverageOf = true := by decide +kernel
set_option maxRecDepth 8000 in
theorem cw_Pl_inkedOf : Cond.code (pm_nm m_Pl_inkedOf) (pm_by m_Pl_inkedOf) (pm_ml m_Pl_inkedOf) (pm_rt m_Pl_inkedOf) ∈ tables_1 := tj4 (List.mem_of_getElem? (i := 136) rfl)
theorem okW_Pl_inkedOf : pm_okV m_Pl_inkedOf = true := by decide +kernel
set_option maxRecDepth 8000 in
theorem cw_Pr_cover : Cond.code (pm_nm m_Pr_cover) (pm_by m_Pr_cover) (pm_ml m_Pr_cover) (pm_rt m_Pr_cover) ∈ tables_1 := tj4 (List.mem_of_getElem? (i := 141) rfl)
theorem okW_Pr_cover : pm_okV m_Pr_cover = true := by decide +kernel
set_option maxRecDepth 8000 in
theorem cw_Pr_cleanFilms : Cond.code (pm_nm m_Pr_cleanFilms) (pm_by m_Pr_cleanFilms) (pm_ml m_Pr_cleanFilms) (pm_rt m_Pr_cleanFilms) ∈ tables_1 := tj4 (List.mem_of_getElem? (i := 145) rfl)
theorem okW_Pr_cleanFilms : pm_okV m_Pr_cleanFilms = true := by decide +kernel
set_option maxRecDepth 8000 in
theorem cw_Ph_key : Cond.code (pm_nm m_Ph_key) (pm_by m_Ph_key) (pm_ml m_Ph_key) (pm_rt m_Ph_key) ∈ tables_1 := tj4 (List.mem_of_getElem? (i := 149) rfl)
theorem okW_Ph_key : pm_okV m_Ph_key = true := by decide +kernel
set_option maxRecDepth 8000 in
theorem cw_Pr_turnKey : Cond.code (pm_nm m_Pr_turnKey) (pm_by m_Pr_turnKey) (pm_ml m_Pr_turnKey) (pm_rt m_Pr_turnKey) ∈ tables_1 := tj4 (List.mem_of_getElem? (i := 153) rfl)
theorem okW_Pr_turnKey : pm_okV m_Pr_turnKey = true := by decide +kernel
set_option maxRecDepth 8000 in
theorem cw_Ph_aim : Cond.code (pm_nm m_Ph_aim) (pm_by m_Ph_aim) (pm_ml m_Ph_aim) (pm_rt m_Ph_aim) ∈ tables_1 := tj4 (List.mem_of_getElem? (i := 157) rfl)
theorem okW_Ph_aim : pm_okV m_Ph_aim = true := by decide +kernel
set_option maxRecDepth 8000 in
theorem cw_Pr_aimAt : Cond.code (pm_nm m_Pr_aimAt) (pm_by m_Pr_aimAt) (pm_ml m_Pr_aimAt) (pm_rt m_Pr_aimAt) ∈ tables_1 := tj4 (List.mem_of_getElem? (i := 161) rfl)
theorem okW_Pr_aimAt : pm_okV m_Pr_aimAt = true := by decide +kernel
set_option maxRecDepth 8000 in
theorem cw_Ph_settled : Cond.code (pm_nm m_Ph_settled) (pm_by m_Ph_settled) (pm_ml m_Ph_settled) (pm_rt m_Ph_settled) ∈ tables_1 := tj4 (List.mem_of_getElem? (i := 165) rfl)
theorem okW_Ph_settled : pm_okV m_Ph_settled = true := by decide +kernel
set_option maxRecDepth 8000 in
theorem cw_Pr_settledKey : Cond.code (pm_nm m_Pr_settledKey) (pm_by m_Pr_settledKey) (pm_ml m_Pr_settledKey) (pm_rt m_Pr_settledKey) ∈ tables_1 := tj4 (List.mem_of_getElem? (i := 169) rfl)
theorem okW_Pr_settledKey : pm_okV m_Pr_settledKey = true := by decide +kernel
set_option maxRecDepth 8000 in
theorem cw_Pr_trialDensity : Cond.code (pm_nm m_Pr_trialDensity) (pm_by m_Pr_trialDensity) (pm_ml m_Pr_trialDensity) (pm_rt m_Pr_trialDensity) ∈ tables_1 := tj4 (List.mem_of_getElem? (i := 173) rfl)
theorem okW_Pr_trialDensity : pm_okV m_Pr_trialDensity = true := by decide +kernel
set_option maxRecDepth 8000 in
theorem cw_Pr_ink : Cond.code (pm_nm m_Pr_ink) (pm_by m_Pr_ink) (pm_ml m_Pr_ink) (pm_rt m_Pr_ink) ∈ tables_1 := tj4 (List.mem_of_getElem? (i := 177) rfl)
theorem okW_Pr_ink : pm_okV m_Pr_ink = true := by decide +kernel
set_option maxRecDepth 8000 in
theorem cw_Jm_floorDiv_II : Cond.code (pm_nm m_Jm_floorDiv_II) (pm_by m_Jm_floorDiv_II) (pm_ml m_Jm_floorDiv_II) (pm_rt m_Jm_floorDiv_II) ∈ tables_1 := tj4 (List.mem_of_getElem? (i := 180) rfl)
theorem okW_Jm_floorDiv_II : pm_okV m_Jm_floorDiv_II = true := by decide +kernel
set_option maxRecDepth 8000 in
theorem cw_Ph_print : Cond.code (pm_nm m_Ph_print) (pm_by m_Ph_print) (pm_ml m_Ph_print) (pm_rt m_Ph_print) ∈ tables_1 := tj4 (List.mem_of_getElem? (i := 184) rfl)
theorem okW_Ph_print : pm_okV m_Ph_print = true := by decide +kernel
set_option maxRecDepth 8000 in
theorem cw_Pr_printMany : Cond.code (pm_nm m_Pr_printMany) (pm_by m_Pr_printMany) (pm_ml m_Pr_printMany) (pm_rt m_Pr_printMany) ∈ tables_1 := tj4 (List.mem_of_getElem? (i := 188) rfl)
theorem okW_Pr_printMany : pm_okV m_Pr_printMany = true := by decide +kernel
set_option maxRecDepth 8000 in
theorem cw_Pr_printSheet : Cond.code (pm_nm m_Pr_printSheet) (pm_by m_Pr_printSheet) (pm_ml m_Pr_printSheet) (pm_rt m_Pr_printSheet) ∈ tables_1 := tj4 (List.mem_of_getElem? (i := 192) rfl)
theorem okW_Pr_printSheet : pm_okV m_Pr_printSheet = true := by decide +kernel
set_option maxRecDepth 8000 in
theorem cw_Jm_abs_I : Cond.code (pm_nm m_Jm_abs_I) (pm_by m_Jm_abs_I) (pm_ml m_Jm_abs_I) (pm_rt m_Jm_abs_I) ∈ tables_1 := tj4 (List.mem_of_getElem? (i := 195) rfl)
theorem okW_Jm_abs_I : pm_okV m_Jm_abs_I = true := by decide +kernel
set_option maxRecDepth 8000 in
theorem cw_Pr_noteGood : Cond.code (pm_nm m_Pr_noteGood) (pm_by m_Pr_noteGood) (pm_ml m_Pr_noteGood) (pm_rt m_Pr_noteGood) ∈ tables_1 := tj4 (List.mem_of_getElem? (i := 199) rfl)
theorem okW_Pr_noteGood : pm_okV m_Pr_noteGood = true := by decide +kernel
set_option maxRecDepth 8000 in
theorem cw_Ph_good : Cond.code (pm_nm m_Ph_good) (pm_by m_Ph_good) (pm_ml m_Ph_good) (pm_rt m_Ph_good) ∈ tables_1 := tj4 (List.mem_of_getElem? (i := 203) rfl)
theorem okW_Ph_good : pm_okV m_Ph_good = true := by decide +kernel
set_option maxRecDepth 8000 in
theorem cw_Pr_printTill : Cond.code (pm_nm m_Pr_printTill) (pm_by m_Pr_printTill) (pm_ml m_Pr_printTill) (pm_rt m_Pr_printTill) ∈ tables_1 := tj4 (List.mem_of_getElem? (i := 207) rfl)
theorem okW_Pr_printTill : pm_okV m_Pr_printTill = true := by decide +kernel
set_option maxRecDepth 8000 in
theorem cw_Ph_zone : Cond.code (pm_nm m_Ph_zone) (pm_by m_Ph_zone) (pm_ml m_Ph_zone) (pm_rt m_Ph_zone) ∈ tables_1 := tj4 (List.mem_of_getElem? (i := 211) rfl)
theorem okW_Ph_zone : pm_okV m_Ph_zone = true := by decide +kernel
set_option maxRecDepth 8000 in
theorem cw_Pr_tellZone : Cond.code (pm_nm m_Pr_tellZone) (pm_by m_Pr_tellZone) (pm_ml m_Pr_tellZone) (pm_rt m_Pr_tellZone) ∈ tables_1 := tj4 (List.mem_of_getElem? (i := 215) rfl)
theorem okW_Pr_tellZone : pm_okV m_Pr_tellZone = true := by decide +kernel
set_option maxRecDepth 8000 in
theorem cw_Ph_number : Cond.code (pm_nm m_Ph_number) (pm_by m_Ph_number) (pm_ml m_Ph_number) (pm_rt m_Ph_number) ∈ tables_1 := tj4 (List.mem_of_getElem? (i := 219) rfl)
theorem okW_Ph_number : pm_okV m_Ph_number = true := by decide +kernel
set_option maxRecDepth 8000 in
theorem cw_Pr_numberOf : Cond.code (pm_nm m_Pr_numberOf) (pm_by m_Pr_numberOf) (pm_ml m_Pr_numberOf) (pm_rt m_Pr_numberOf) ∈ tables_1 := tj4 (List.mem_of_getElem? (i := 223) rfl)
theorem okW_Pr_numberOf : pm_okV m_Pr_numberOf = true := by decide +kernel
set_option maxRecDepth 8000 in
theorem cw_Ji_bitCount : Cond.code (pm_nm m_Ji_bitCount) (pm_by m_Ji_bitCount) (pm_ml m_Ji_bitCount) (pm_rt m_Ji_bitCount) ∈ tables_1 := tj4 (List.mem_of_getElem? (i := 226) rfl)
theorem okW_Ji_bitCount : pm_okV m_Ji_bitCount = true := by decide +kernel
set_option maxRecDepth 8000 in
theorem cw_Ph_sorts : Cond.code (pm_nm m_Ph_sorts) (pm_by m_Ph_sorts) (pm_ml m_Ph_sorts) (pm_rt m_Ph_sorts) ∈ tables_1 := tj4 (List.mem_of_getElem? (i := 233) rfl)
theorem okW_Ph_sorts : pm_okV m_Ph_sorts = true := by decide +kernel
set_option maxRecDepth 8000 in
theorem cw_Ty_stockUp : Cond.code (pm_nm m_Ty_stockUp) (pm_by m_Ty_stockUp) (pm_ml m_Ty_stockUp) (pm_rt m_Ty_stockUp) ∈ tables_1 := tj4 (List.mem_of_getElem? (i := 237) rfl)
theorem okW_Ty_stockUp : pm_okV m_Ty_stockUp = true := by decide +kernel
set_option maxRecDepth 8000 in
theorem cw_Ph_set : Cond.code (pm_nm m_Ph_set) (pm_by m_Ph_set) (pm_ml m_Ph_set) (pm_rt m_Ph_set) ∈ tables_1 := tj5 (List.mem_of_getElem? (i := 1) rfl)
theorem okW_Ph_set : pm_okV m_Ph_set = true := by decide +kernel
set_option maxRecDepth 8000 in
theorem cw_Ty_takeText : Cond.code (pm_nm m_Ty_takeText) (pm_by m_Ty_takeText) (pm_ml m_Ty_takeText) (pm_rt m_Ty_takeText) ∈ tables_1 := tj5 (List.mem_of_getElem? (i := 5) rfl)
theorem okW_Ty_takeText : pm_okV m_Ty_takeText = true := by decide +kernel
set_option maxRecDepth 8000 in
theorem cw_Ty_readWords : Cond.code (pm_nm m_Ty_readWords) (pm_by m_Ty_readWords) (pm_ml m_Ty_readWords) (pm_rt m_Ty_readWords) ∈ tables_1 := tj5 (List.mem_of_getElem? (i := 9) rfl)
theorem okW_Ty_readWords : pm_okV m_Ty_readWords = true := by decide +kernel
set_option maxRecDepth 8000 in
theorem cw_Ty_measureWords : Cond.code (pm_nm m_Ty_measureWords) (pm_by m_Ty_measureWords) (pm_ml m_Ty_measureWords) (pm_rt m_Ty_measureWords) ∈ tables_1 := tj5 (List.mem_of_getElem? (i := 19) rfl)
theorem okW_Ty_measureWords : pm_okV m_Ty_measureWords = true := by decide +kernel
set_option maxRecDepth 8000 in
theorem cw_Ty_enoughSorts : Cond.code (pm_nm m_Ty_enoughSorts) (pm_by m_Ty_enoughSorts) (pm_ml m_Ty_enoughSorts) (pm_rt m_Ty_enoughSorts) ∈ tables_1 := tj5 (List.mem_of_getElem? (i := 24) rfl)
theorem okW_Ty_enoughSorts : pm_okV m_Ty_enoughSorts = true := by decide +kernel
set_option maxRecDepth 8000 in
theorem cw_Ty_wordsFit : Cond.code (pm_nm m_Ty_wordsFit) (pm_by m_Ty_wordsFit) (pm_ml m_Ty_wordsFit) (pm_rt m_Ty_wordsFit) ∈ tables_1 := tj5 (List.mem_of_getElem? (i := 28) rfl)
theorem okW_Ty_wordsFit : pm_okV m_Ty_wordsFit = true := by decide +kernel
set_option maxRecDepth 8000 in
theorem cw_Ty_breakLines : Cond.code (pm_nm m_Ty_breakLines) (pm_by m_Ty_breakLines) (pm_ml m_Ty_breakLines) (pm_rt m_Ty_breakLines) ∈ tables_1 := tj5 (List.mem_of_getElem? (i := 32) rfl)
theorem okW_Ty_breakLines : pm_okV m_Ty_breakLines = true := by decide +kernel
set_option maxRecDepth 8000 in
theorem cw_Ty_layLine : Cond.code (pm_nm m_Ty_layLine) (pm_by m_Ty_layLine) (pm_ml m_Ty_layLine) (pm_rt m_Ty_layLine) ∈ tables_1 := tj5 (List.mem_of_getElem? (i := 36) rfl)
theorem okW_Ty_layLine : pm_okV m_Ty_layLine = true := by decide +kernel
set_option maxRecDepth 8000 in
theorem cw_Tl_start : Cond.code (pm_nm m_Tl_start) (pm_by m_Tl_start) (pm_ml m_Tl_start) (pm_rt m_Tl_start) ∈ tables_1 := tj5 (List.mem_of_getElem? (i := 41) rfl)
theorem okW_Tl_start : pm_okV m_Tl_start = true := by decide +kernel
set_option maxRecDepth 8000 in
theorem cw_Tl_addSpace : Cond.code (pm_nm m_Tl_addSpace) (pm_by m_Tl_addSpace) (pm_ml m_Tl_addSpace) (pm_rt m_Tl_addSpace) ∈ tables_1 := tj5 (List.mem_of_getElem? (i := 45) rfl)
theorem okW_Tl_addSpace : pm_okV m_Tl_addSpace = true := by decide +kernel
set_option maxRecDepth 8000 in
theorem cw_Ty_layWord : Cond.code (pm_nm m_Ty_layWord) (pm_by m_Ty_layWord) (pm_ml m_Ty_layWord) (pm_rt m_Ty_layWord) ∈ tables_1 := tj5 (List.mem_of_getElem? (i := 49) rfl)
theorem okW_Ty_layWord : pm_okV m_Ty_layWord = true := by decide +kernel
set_option maxRecDepth 8000 in
theorem cw_Tl_addWord : Cond.code (pm_nm m_Tl_addWord) (pm_by m_Tl_addWord) (pm_ml m_Tl_addWord) (pm_rt m_Tl_addWord) ∈ tables_1 := tj5 (List.mem_of_getElem? (i := 53) rfl)
theorem okW_Tl_addWord : pm_okV m_Tl_addWord = true := by decide +kernel
set_option maxRecDepth 8000 in
theorem cw_Tl_addLetter : Cond.code (pm_nm m_Tl_addLetter) (pm_by m_Tl_addLetter) (pm_ml m_Tl_addLetter) (pm_rt m_Tl_addLetter) ∈ tables_1 := tj5 (List.mem_of_getElem? (i := 57) rfl)
theorem okW_Tl_addLetter : pm_okV m_Tl_addLetter = true := by decide +kernel
set_option maxRecDepth 8000 in
theorem cw_Ph_distribute : Cond.code (pm_nm m_Ph_distribute) (pm_by m_Ph_distribute) (pm_ml m_Ph_distribute) (pm_rt m_Ph_distribute) ∈ tables_1 := tj5 (List.mem_of_getElem? (i := 61) rfl)
theorem okW_Ph_distribute : pm_okV m_Ph_distribute = true := by decide +kernel
set_option maxRecDepth 8000 in
theorem cw_Ty_putBack : Cond.code (pm_nm m_Ty_putBack) (pm_by m_Ty_putBack) (pm_ml m_Ty_putBack) (pm_rt m_Ty_putBack) ∈ tables_1 := tj5 (List.mem_of_getElem? (i := 65) rfl)
theorem okW_Ty_putBack : pm_okV m_Ty_putBack = true := by decide +kernel
set_option maxRecDepth 8000 in
theorem cw_Ty_stands : Cond.code (pm_nm m_Ty_stands) (pm_by m_Ty_stands) (pm_ml m_Ty_stands) (pm_rt m_Ty_stands) ∈ tables_1 := tj5 (List.mem_of_getElem? (i := 69) rfl)
theorem okW_Ty_stands : pm_okV m_Ty_stands = true := by decide +kernel
set_option maxRecDepth 8000 in
theorem cw_Tl_length : Cond.code (pm_nm m_Tl_length) (pm_by m_Tl_length) (pm_ml m_Tl_length) (pm_rt m_Tl_length) ∈ tables_1 := tj5 (List.mem_of_getElem? (i := 73) rfl)
theorem okW_Tl_length : pm_okV m_Tl_length = true := by decide +kernel
set_option maxRecDepth 8000 in
theorem cw_Tl_letterAt : Cond.code (pm_nm m_Tl_letterAt) (pm_by m_Tl_letterAt) (pm_ml m_Tl_letterAt) (pm_rt m_Tl_letterAt) ∈ tables_1 := tj5 (List.mem_of_getElem? (i := 77) rfl)
theorem okW_Tl_letterAt : pm_okV m_Tl_letterAt = true := by decide +kernel
set_option maxRecDepth 8000 in
theorem cw_Ph_line : Cond.code (pm_nm m_Ph_line) (pm_by m_Ph_line) (pm_ml m_Ph_line) (pm_rt m_Ph_line) ∈ tables_1 := tj5 (List.mem_of_getElem? (i := 82) rfl)
theorem okW_Ph_line : pm_okV m_Ph_line = true := by decide +kernel
set_option maxRecDepth 8000 in
theorem cw_Ty_tellLine : Cond.code (pm_nm m_Ty_tellLine) (pm_by m_Ty_tellLine) (pm_ml m_Ty_tellLine) (pm_rt m_Ty_tellLine) ∈ tables_1 := tj5 (List.mem_of_getElem? (i := 86) rfl)
theorem okW_Ty_tellLine : pm_okV m_Ty_tellLine = true := by decide +kernel
set_option maxRecDepth 8000 in
theorem cw_Tl_tell : Cond.code (pm_nm m_Tl_tell) (pm_by m_Tl_tell) (pm_ml m_Tl_tell) (pm_rt m_Tl_tell) ∈ tables_1 := tj5 (List.mem_of_getElem? (i := 90) rfl)
theorem okW_Tl_tell : pm_okV m_Tl_tell = true := by decide +kernel
set_option maxRecDepth 8000 in
theorem cw_Ph_strip : Cond.code (pm_nm m_Ph_strip) (pm_by m_Ph_strip) (pm_ml m_Ph_strip) (pm_rt m_Ph_strip) ∈ tables_1 := tj5 (List.mem_of_getElem? (i := 94) rfl)
theorem okW_Ph_strip : pm_okV m_Ph_strip = true := by decide +kernel
set_option maxRecDepth 8000 in
theorem cw_Ty_tellStrip : Cond.code (pm_nm m_Ty_tellStrip) (pm_by m_Ty_tellStrip) (pm_ml m_Ty_tellStrip) (pm_rt m_Ty_tellStrip) ∈ tables_1 := tj5 (List.mem_of_getElem? (i := 98) rfl)
theorem okW_Ty_tellStrip : pm_okV m_Ty_tellStrip = true := by decide +kernel
set_option maxRecDepth 8000 in
theorem cw_Tl_backwards : Cond.code (pm_nm m_Tl_backwards) (pm_by m_Tl_backwards) (pm_ml m_Tl_backwards) (pm_rt m_Tl_backwards) ∈ tables_1 := tj5 (List.mem_of_getElem? (i := 102) rfl)
theorem okW_Tl_backwards : pm_okV m_Tl_backwards = true := by decide +kernel
set_option maxRecDepth 8000 in
theorem cw_Ph_left : Cond.code (pm_nm m_Ph_left) (pm_by m_Ph_left) (pm_ml m_Ph_left) (pm_rt m_Ph_left) ∈ tables_1 := tj5 (List.mem_of_getElem? (i := 107) rfl)
theorem okW_Ph_left : pm_okV m_Ph_left = true := by decide +kernel
set_option maxRecDepth 8000 in
theorem cw_Ty_stockOf : Cond.code (pm_nm m_Ty_stockOf) (pm_by m_Ty_stockOf) (pm_ml m_Ty_stockOf) (pm_rt m_Ty_stockOf) ∈ tables_1 := tj5 (List.mem_of_getElem? (i := 111) rfl)
theorem okW_Ty_stockOf : pm_okV m_Ty_stockOf = true := by decide +kernel
set_option maxRecDepth 8000 in
theorem cw_Ph_pile : Cond.code (pm_nm m_Ph_pile) (pm_by m_Ph_pile) (pm_ml m_Ph_pile) (pm_rt m_Ph_pile) ∈ tables_1 := tj5 (List.mem_of_getElem? (i := 115) rfl)
theorem okW_Ph_pile : pm_okV m_Ph_pile = true := by decide +kernel
set_option maxRecDepth 8000 in
theorem cw_Pi_takeText : Cond.code (pm_nm m_Pi_takeText) (pm_by m_Pi_takeText) (pm_ml m_Pi_takeText) (pm_rt m_Pi_takeText) ∈ tables_1 := tj5 (List.mem_of_getElem? (i := 119) rfl)
theorem okW_Pi_takeText : pm_okV m_Pi_takeText = true := by decide +kernel
set_option maxRecDepth 8000 in
theorem cw_Pi_readCut : Cond.code (pm_nm m_Pi_readCut) (pm_by m_Pi_readCut) (pm_ml m_Pi_readCut) (pm_rt m_Pi_readCut) ∈ tables_1 := tj5 (List.mem_of_getElem? (i := 124) rfl)
theorem okW_Pi_readCut : pm_okV m_Pi_readCut = true := by decide +kernel
set_option maxRecDepth 8000 in
theorem cw_Pi_has : Cond.code (pm_nm m_Pi_has) (pm_by m_Pi_has) (pm_ml m_Pi_has) (pm_rt m_Pi_has) ∈ tables_1 := tj5 (List.mem_of_getElem? (i := 132) rfl)
theorem okW_Pi_has : pm_okV m_Pi_has = true := by decide +kernel
set_option maxRecDepth 8000 in
theorem cw_Pi_cutOff : Cond.code (pm_nm m_Pi_cutOff) (pm_by m_Pi_cutOff) (pm_ml m_Pi_cutOff) (pm_rt m_Pi_cutOff) ∈ tables_1 := tj5 (List.mem_of_getElem? (i := 138) rfl)
theorem okW_Pi_cutOff : pm_okV m_Pi_cutOff = true := by decide +kernel
set_option maxRecDepth 8000 in
theorem cw_Ph_piece : Cond.code (pm_nm m_Ph_piece) (pm_by m_Ph_piece) (pm_ml m_Ph_piece) (pm_rt m_Ph_piece) ∈ tables_1 := tj5 (List.mem_of_getElem? (i := 144) rfl)
theorem okW_Ph_piece : pm_okV m_Ph_piece = true := by decide +kernel
set_option maxRecDepth 8000 in
theorem cw_Pi_tell : Cond.code (pm_nm m_Pi_tell) (pm_by m_Pi_tell) (pm_ml m_Pi_tell) (pm_rt m_Pi_tell) ∈ tables_1 := tj5 (List.mem_of_getElem? (i := 148) rfl)
theorem okW_Pi_tell : pm_okV m_Pi_tell = true := by decide +kernel
set_option maxRecDepth 8000 in
theorem cw_Ph_on : Cond.code (pm_nm m_Ph_on) (pm_by m_Ph_on) (pm_ml m_Ph_on) (pm_rt m_Ph_on) ∈ tables_1 := tj5 (List.mem_of_getElem? (i := 152) rfl)
theorem okW_Ph_on : pm_okV m_Ph_on = true := by decide +kernel
set_option maxRecDepth 8000 in
theorem cw_Pi_pieceAt : Cond.code (pm_nm m_Pi_pieceAt) (pm_by m_Pi_pieceAt) (pm_ml m_Pi_pieceAt) (pm_rt m_Pi_pieceAt) ∈ tables_1 := tj5 (List.mem_of_getElem? (i := 156) rfl)
theorem okW_Pi_pieceAt : pm_okV m_Pi_pieceAt = true := by decide +kernel
set_option maxRecDepth 8000 in
theorem cw_Ph_gather : Cond.code (pm_nm m_Ph_gather) (pm_by m_Ph_gather) (pm_ml m_Ph_gather) (pm_rt m_Ph_gather) ∈ tables_1 := tj5 (List.mem_of_getElem? (i := 160) rfl)
theorem okW_Ph_gather : pm_okV m_Ph_gather = true := by decide +kernel
set_option maxRecDepth 8000 in
theorem cw_Fo_sheets : Cond.code (pm_nm m_Fo_sheets) (pm_by m_Fo_sheets) (pm_ml m_Fo_sheets) (pm_rt m_Fo_sheets) ∈ tables_1 := tj5 (List.mem_of_getElem? (i := 164) rfl)
theorem okW_Fo_sheets : pm_okV m_Fo_sheets = true := by decide +kernel
set_option maxRecDepth 8000 in
theorem cw_Ph_letters : Cond.code (pm_nm m_Ph_letters) (pm_by m_Ph_letters) (pm_ml m_Ph_letters) (pm_rt m_Ph_letters) ∈ tables_1 := tj5 (List.mem_of_getElem? (i := 172) rfl)
theorem okW_Ph_letters : pm_okV m_Ph_letters = true := by decide +kernel
set_option maxRecDepth 8000 in
theorem cw_Ma_takeText : Cond.code (pm_nm m_Ma_takeText) (pm_by m_Ma_takeText) (pm_ml m_Ma_takeText) (pm_rt m_Ma_takeText) ∈ tables_1 := tj5 (List.mem_of_getElem? (i := 176) rfl)
theorem okW_Ma_takeText : pm_okV m_Ma_takeText = true := by decide +kernel
set_option maxRecDepth 8000 in
theorem cw_Ma_readCode : Cond.code (pm_nm m_Ma_readCode) (pm_by m_Ma_readCode) (pm_ml m_Ma_readCode) (pm_rt m_Ma_readCode) ∈ tables_1 := tj5 (List.mem_of_getElem? (i := 179) rfl)
theorem okW_Ma_readCode : pm_okV m_Ma_readCode = true := by decide +kernel
set_option maxRecDepth 8000 in
theorem cw_Ma_readName : Cond.code (pm_nm m_Ma_readName) (pm_by m_Ma_readName) (pm_ml m_Ma_readName) (pm_rt m_Ma_readName) ∈ tables_1 := tj5 (List.mem_of_getElem? (i := 187) rfl)
theorem okW_Ma_readName : pm_okV m_Ma_readName = true := by decide +kernel
set_option maxRecDepth 8000 in
theorem cw_Ma_newcomers : Cond.code (pm_nm m_Ma_newcomers) (pm_by m_Ma_newcomers) (pm_ml m_Ma_newcomers) (pm_rt m_Ma_newcomers) ∈ tables_1 := tj5 (List.mem_of_getElem? (i := 196) rfl)
theorem okW_Ma_newcomers : pm_okV m_Ma_newcomers = true := by decide +kernel
set_option maxRecDepth 8000 in
theorem cw_Ma_isThere : Cond.code (pm_nm m_Ma_isThere) (pm_by m_Ma_isThere) (pm_ml m_Ma_isThere) (pm_rt m_Ma_isThere) ∈ tables_1 := tj5 (List.mem_of_getElem? (i := 200) rfl)
theorem okW_Ma_isThere : pm_okV m_Ma_isThere = true := by decide +kernel
set_option maxRecDepth 8000 in
theorem cw_Ma_placeFor : Cond.code (pm_nm m_Ma_placeFor) (pm_by m_Ma_placeFor) (pm_ml m_Ma_placeFor) (pm_rt m_Ma_placeFor) ∈ tables_1 := tj5 (List.mem_of_getElem? (i := 204) rfl)
theorem okW_Ma_placeFor : pm_okV m_Ma_placeFor = true := by decide +kernel
set_option maxRecDepth 8000 in
theorem cw_Ma_isAhead : Cond.code (pm_nm m_Ma_isAhead) (pm_by m_Ma_isAhead) (pm_ml m_Ma_isAhead) (pm_rt m_Ma_isAhead) ∈ tables_1 := tj5 (List.mem_of_getElem? (i := 208) rfl)
theorem okW_Ma_isAhead : pm_okV m_Ma_isAhead = true := by decide +kernel
set_option maxRecDepth 8000 in
theorem cw_Ma_has : Cond.code (pm_nm m_Ma_has) (pm_by m_Ma_has) (pm_ml m_Ma_has) (pm_rt m_Ma_has) ∈ tables_1 := tj5 (List.mem_of_getElem? (i := 212) rfl)
theorem okW_Ma_has : pm_okV m_Ma_has = true := by decide +kernel
set_option maxRecDepth 8000 in
theorem cw_Ma_standsAhead : Cond.code (pm_nm m_Ma_standsAhead) (pm_by m_Ma_standsAhead) (pm_ml m_Ma_standsAhead) (pm_rt m_Ma_standsAhead) ∈ tables_1 := tj5 (List.mem_of_getElem? (i := 216) rfl)
theorem okW_Ma_standsAhead : pm_okV m_Ma_standsAhead = true := by decide +kernel
set_option maxRecDepth 8000 in
theorem cw_Ma_insert : Cond.code (pm_nm m_Ma_insert) (pm_by m_Ma_insert) (pm_ml m_Ma_insert) (pm_rt m_Ma_insert) ∈ tables_1 := tj5 (List.mem_of_getElem? (i := 220) rfl)
theorem okW_Ma_insert : pm_okV m_Ma_insert = true := by decide +kernel
set_option maxRecDepth 8000 in
theorem cw_Bu_outdate : Cond.code (pm_nm m_Bu_outdate) (pm_by m_Bu_outdate) (pm_ml m_Bu_outdate) (pm_rt m_Bu_outdate) ∈ tables_1 := tj5 (List.mem_of_getElem? (i := 224) rfl)
theorem okW_Bu_outdate : pm_okV m_Bu_outdate = true := by decide +kernel
set_option maxRecDepth 8000 in
theorem cw_Ph_bundles : Cond.code (pm_nm m_Ph_bundles) (pm_by m_Ph_bundles) (pm_ml m_Ph_bundles) (pm_rt m_Ph_bundles) ∈ tables_1 := tj5 (List.mem_of_getElem? (i := 228) rfl)
theorem okW_Ph_bundles : pm_okV m_Ph_bundles = true := by decide +kernel
set_option maxRecDepth 8000 in
theorem cw_Bu_limit : Cond.code (pm_nm m_Bu_limit) (pm_by m_Bu_limit) (pm_ml m_Bu_limit) (pm_rt m_Bu_limit) ∈ tables_1 := tj5 (List.mem_of_getElem? (i := 232) rfl)
theorem okW_Bu_limit : pm_okV m_Bu_limit = true := by decide +kernel
set_option maxRecDepth 8000 in
theorem cw_Bu_howMany : Cond.code (pm_nm m_Bu_howMany) (pm_by m_Bu_howMany) (pm_ml m_Bu_howMany) (pm_rt m_Bu_howMany) ∈ tables_1 := tj5 (List.mem_of_getElem? (i := 236) rfl)
theorem okW_Bu_howMany : pm_okV m_Bu_howMany = true := by decide +kernel
set_option maxRecDepth 8000 in
theorem cw_Bu_refresh : Cond.code (pm_nm m_Bu_refresh) (pm_by m_Bu_refresh) (pm_ml m_Bu_refresh) (pm_rt m_Bu_refresh) ∈ tables_1 := tj6 (List.mem_of_getElem? (i := 0) rfl)
theorem okW_Bu_refresh : pm_okV m_Bu_refresh = true := by decide +kernel
set_option maxRecDepth 8000 in
theorem cw_Bu_bundleKind : Cond.code (pm_nm m_Bu_bundleKind) (pm_by m_Bu_bundleKind) (pm_ml m_Bu_bundleKind) (pm_rt m_Bu_bundleKind) ∈ tables_1 := tj6 (List.mem_of_getElem? (i := 4) rfl)
theorem okW_Bu_bundleKind : pm_okV m_Bu_bundleKind = true := by decide +kernel
set_option maxRecDepth 8000 in
theorem cw_Ma_howMany : Cond.code (pm_nm m_Ma_howMany) (pm_by m_Ma_howMany) (pm_ml m_Ma_howMany) (pm_rt m_Ma_howMany) ∈ tables_1 := tj6 (List.mem_of_getElem? (i := 8) rfl)
theorem okW_Ma_howMany : pm_okV m_Ma_howMany = true := by decide +kernel
set_option maxRecDepth 8000 in
theorem cw_Bu_groupOf : Cond.code (pm_nm m_Bu_groupOf) (pm_by m_Bu_groupOf) (pm_ml m_Bu_groupOf) (pm_rt m_Bu_groupOf) ∈ tables_1 := tj6 (List.mem_of_getElem? (i := 11) rfl)
theorem okW_Bu_groupOf : pm_okV m_Bu_groupOf = true := by decide +kernel
set_option maxRecDepth 8000 in
theorem cw_Ma_codeOf : Cond.code (pm_nm m_Ma_codeOf) (pm_by m_Ma_codeOf) (pm_ml m_Ma_codeOf) (pm_rt m_Ma_codeOf) ∈ tables_1 := tj6 (List.mem_of_getElem? (i := 15) rfl)
theorem okW_Ma_codeOf : pm_okV m_Ma_codeOf = true := by decide +kernel
set_option maxRecDepth 8000 in
theorem cw_Bu_bundleGroup : Cond.code (pm_nm m_Bu_bundleGroup) (pm_by m_Bu_bundleGroup) (pm_ml m_Bu_bundleGroup) (pm_rt m_Bu_bundleGroup) ∈ tables_1 := tj6 (List.mem_of_getElem? (i := 19) rfl)
theorem okW_Bu_bundleGroup : pm_okV m_Bu_bundleGroup = true := by decide +kernel
set_option maxRecDepth 8000 in
theorem cw_Bu_makeBundle : Cond.code (pm_nm m_Bu_makeBundle) (pm_by m_Bu_makeBundle) (pm_ml m_Bu_makeBundle) (pm_rt m_Bu_makeBundle) ∈ tables_1 := tj6 (List.mem_of_getElem? (i := 24) rfl)
theorem okW_Bu_makeBundle : pm_okV m_Bu_makeBundle = true := by decide +kernel
set_option maxRecDepth 8000 in
theorem cw_Ph_letter : Cond.code (pm_nm m_Ph_letter) (pm_by m_Ph_letter) (pm_ml m_Ph_letter) (pm_rt m_Ph_letter) ∈ tables_1 := tj6 (List.mem_of_getElem? (i := 28) rfl)
theorem okW_Ph_letter : pm_okV m_Ph_letter = true := by decide +kernel
set_option maxRecDepth 8000 in
theorem cw_Bu_bundleOf : Cond.code (pm_nm m_Bu_bundleOf) (pm_by m_Bu_bundleOf) (pm_ml m_Bu_bundleOf) (pm_rt m_Bu_bundleOf) ∈ tables_1 := tj6 (List.mem_of_getElem? (i := 32) rfl)
theorem okW_Bu_bundleOf : pm_okV m_Bu_bundleOf = true := by decide +kernel
set_option maxRecDepth 8000 in
theorem cw_Ma_tell : Cond.code (pm_nm m_Ma_tell) (pm_by m_Ma_tell) (pm_ml m_Ma_tell) (pm_rt m_Ma_tell) ∈ tables_1 := tj6 (List.mem_of_getElem? (i := 37) rfl)
theorem okW_Ma_tell : pm_okV m_Ma_tell = true := by decide +kernel
set_option maxRecDepth 8000 in
theorem cw_Ma_lengthOf : Cond.code (pm_nm m_Ma_lengthOf) (pm_by m_Ma_lengthOf) (pm_ml m_Ma_lengthOf) (pm_rt m_Ma_lengthOf) ∈ tables_1 := tj6 (List.mem_of_getElem? (i := 41) rfl)
theorem okW_Ma_lengthOf : pm_okV m_Ma_lengthOf = true := by decide +kernel
set_option maxRecDepth 8000 in
theorem cw_Ma_byteOf : Cond.code (pm_nm m_Ma_byteOf) (pm_by m_Ma_byteOf) (pm_ml m_Ma_byteOf) (pm_rt m_Ma_byteOf) ∈ tables_1 := tj6 (List.mem_of_getElem? (i := 45) rfl)
theorem okW_Ma_byteOf : pm_okV m_Ma_byteOf = true := by decide +kernel
set_option maxRecDepth 8000 in
theorem cw_Ma_cameAheadOf : Cond.code (pm_nm m_Ma_cameAheadOf) (pm_by m_Ma_cameAheadOf) (pm_ml m_Ma_cameAheadOf) (pm_rt m_Ma_cameAheadOf) ∈ tables_1 := tj6 (List.mem_of_getElem? (i := 49) rfl)
theorem okW_Ma_cameAheadOf : pm_okV m_Ma_cameAheadOf = true := by decide +kernel
set_option maxRecDepth 8000 in
theorem cw_Ph_bundle : Cond.code (pm_nm m_Ph_bundle) (pm_by m_Ph_bundle) (pm_ml m_Ph_bundle) (pm_rt m_Ph_bundle) ∈ tables_1 := tj6 (List.mem_of_getElem? (i := 53) rfl)
theorem okW_Ph_bundle : pm_okV m_Ph_bundle = true := by decide +kernel
set_option maxRecDepth 8000 in
theorem cw_Bu_tell : Cond.code (pm_nm m_Bu_tell) (pm_by m_Bu_tell) (pm_ml m_Bu_tell) (pm_rt m_Bu_tell) ∈ tables_1 := tj6 (List.mem_of_getElem? (i := 57) rfl)
theorem okW_Bu_tell : pm_okV m_Bu_tell = true := by decide +kernel
set_option maxRecDepth 8000 in
theorem cw_Ph_strike : Cond.code (pm_nm m_Ph_strike) (pm_by m_Ph_strike) (pm_ml m_Ph_strike) (pm_rt m_Ph_strike) ∈ tables_1 := tj6 (List.mem_of_getElem? (i := 61) rfl)
theorem okW_Ph_strike : pm_okV m_Ph_strike = true := by decide +kernel
set_option maxRecDepth 8000 in
theorem cw_Ma_remove : Cond.code (pm_nm m_Ma_remove) (pm_by m_Ma_remove) (pm_ml m_Ma_remove) (pm_rt m_Ma_remove) ∈ tables_1 := tj6 (List.mem_of_getElem? (i := 65) rfl)
theorem okW_Ma_remove : pm_okV m_Ma_remove = true := by decide +kernel
set_option maxRecDepth 8000 in
theorem cw_Ph_job : Cond.code (pm_nm m_Ph_job) (pm_by m_Ph_job) (pm_ml m_Ph_job) (pm_rt m_Ph_job) ∈ tables_1 := tj6 (List.mem_of_getElem? (i := 69) rfl)
theorem okW_Ph_job : pm_okV m_Ph_job = true := by decide +kernel
set_option maxRecDepth 8000 in
theorem cw_Wo_add : Cond.code (pm_nm m_Wo_add) (pm_by m_Wo_add) (pm_ml m_Wo_add) (pm_rt m_Wo_add) ∈ tables_1 := tj6 (List.mem_of_getElem? (i := 73) rfl)
theorem okW_Wo_add : pm_okV m_Wo_add = true := by decide +kernel
set_option maxRecDepth 8000 in
theorem cw_Ph_times : Cond.code (pm_nm m_Ph_times) (pm_by m_Ph_times) (pm_ml m_Ph_times) (pm_rt m_Ph_times) ∈ tables_1 := tj6 (List.mem_of_getElem? (i := 77) rfl)
theorem okW_Ph_times : pm_okV m_Ph_times = true := by decide +kernel
set_option maxRecDepth 8000 in
theorem cw_Wo_allow : Cond.code (pm_nm m_Wo_allow) (pm_by m_Wo_allow) (pm_ml m_Wo_allow) (pm_rt m_Wo_allow) ∈ tables_1 := tj6 (List.mem_of_getElem? (i := 81) rfl)
theorem okW_Wo_allow : pm_okV m_Wo_allow = true := by decide +kernel
set_option maxRecDepth 8000 in
theorem cw_Ph_drop : Cond.code (pm_nm m_Ph_drop) (pm_by m_Ph_drop) (pm_ml m_Ph_drop) (pm_rt m_Ph_drop) ∈ tables_1 := tj6 (List.mem_of_getElem? (i := 85) rfl)
theorem okW_Ph_drop : pm_okV m_Ph_drop = true := by decide +kernel
set_option maxRecDepth 8000 in
theorem cw_Wo_remove : Cond.code (pm_nm m_Wo_remove) (pm_by m_Wo_remove) (pm_ml m_Wo_remove) (pm_rt m_Wo_remove) ∈ tables_1 := tj6 (List.mem_of_getElem? (i := 89) rfl)
theorem okW_Wo_remove : pm_okV m_Wo_remove = true := by decide +kernel
set_option maxRecDepth 8000 in
theorem cw_Wo_has : Cond.code (pm_nm m_Wo_has) (pm_by m_Wo_has) (pm_ml m_Wo_has) (pm_rt m_Wo_has) ∈ tables_1 := tj6 (List.mem_of_getElem? (i := 93) rfl)
theorem okW_Wo_has : pm_okV m_Wo_has = true := by decide +kernel
set_option maxRecDepth 8000 in
theorem cw_Ph_order : Cond.code (pm_nm m_Ph_order) (pm_by m_Ph_order) (pm_ml m_Ph_order) (pm_rt m_Ph_order) ∈ tables_1 := tj6 (List.mem_of_getElem? (i := 97) rfl)
theorem okW_Ph_order : pm_okV m_Ph_order = true := by decide +kernel
set_option maxRecDepth 8000 in
theorem cw_Wo_jobAt : Cond.code (pm_nm m_Wo_jobAt) (pm_by m_Wo_jobAt) (pm_ml m_Wo_jobAt) (pm_rt m_Wo_jobAt) ∈ tables_1 := tj6 (List.mem_of_getElem? (i := 101) rfl)
theorem okW_Wo_jobAt : pm_okV m_Wo_jobAt = true := by decide +kernel
set_option maxRecDepth 8000 in
theorem cw_Wo_refresh : Cond.code (pm_nm m_Wo_refresh) (pm_by m_Wo_refresh) (pm_ml m_Wo_refresh) (pm_rt m_Wo_refresh) ∈ tables_1 := tj6 (List.mem_of_getElem? (i := 105) rfl)
theorem okW_Wo_refresh : pm_okV m_Wo_refresh = true := by decide +kernel
set_option maxRecDepth 8000 in
theorem cw_Wo_search : Cond.code (pm_nm m_Wo_search) (pm_by m_Wo_search) (pm_ml m_Wo_search) (pm_rt m_Wo_search) ∈ tables_1 := tj6 (List.mem_of_getElem? (i := 110) rfl)
theorem okW_Wo_search : pm_okV m_Wo_search = true := by decide +kernel
set_option maxRecDepth 8000 in
theorem cw_Wo_keepTrial : Cond.code (pm_nm m_Wo_keepTrial) (pm_by m_Wo_keepTrial) (pm_ml m_Wo_keepTrial) (pm_rt m_Wo_keepTrial) ∈ tables_1 := tj6 (List.mem_of_getElem? (i := 114) rfl)
theorem okW_Wo_keepTrial : pm_okV m_Wo_keepTrial = true := by decide +kernel
set_option maxRecDepth 8000 in
theorem cw_Wo_changeAhead : Cond.code (pm_nm m_Wo_changeAhead) (pm_by m_Wo_changeAhead) (pm_ml m_Wo_changeAhead) (pm_rt m_Wo_changeAhead) ∈ tables_1 := tj6 (List.mem_of_getElem? (i := 118) rfl)
theorem okW_Wo_changeAhead : pm_okV m_Wo_changeAhead = true := by decide +kernel
set_option maxRecDepth 8000 in
theorem cw_Wo_isChange : Cond.code (pm_nm m_Wo_isChange) (pm_by m_Wo_isChange) (pm_ml m_Wo_isChange) (pm_rt m_Wo_isChange) ∈ tables_1 := tj6 (List.mem_of_getElem? (i := 122) rfl)
theorem okW_Wo_isChange : pm_okV m_Wo_isChange = true := by decide +kernel
set_option maxRecDepth 8000 in
theorem cw_Wo_writeSchedule : Cond.code (pm_nm m_Wo_writeSchedule) (pm_by m_Wo_writeSchedule) (pm_ml m_Wo_writeSchedule) (pm_rt m_Wo_writeSchedule) ∈ tables_1 := tj6 (List.mem_of_getElem? (i := 127) rfl)
theorem okW_Wo_writeSchedule : pm_okV m_Wo_writeSchedule = true := by decide +kernel
set_option maxRecDepth 8000 in
theorem cw_Ph_when : Cond.code (pm_nm m_Ph_when) (pm_by m_Ph_when) (pm_ml m_Ph_when) (pm_rt m_Ph_when) ∈ tables_1 := tj6 (List.mem_of_getElem? (i := 131) rfl)
theorem okW_Ph_when : pm_okV m_Ph_when = true := by decide +kernel
set_option maxRecDepth 8000 in
theorem cw_Wo_tell : Cond.code (pm_nm m_Wo_tell) (pm_by m_Wo_tell) (pm_ml m_Wo_tell) (pm_rt m_Wo_tell) ∈ tables_1 := tj6 (List.mem_of_getElem? (i := 135) rfl)
theorem okW_Wo_tell : pm_okV m_Wo_tell = true := by decide +kernel
set_option maxRecDepth 8000 in
theorem cw_Ph_count : Cond.code (pm_nm m_Ph_count) (pm_by m_Ph_count) (pm_ml m_Ph_count) (pm_rt m_Ph_count) ∈ tables_1 := tj6 (List.mem_of_getElem? (i := 139) rfl)
theorem okW_Ph_count : pm_okV m_Ph_count = true := by decide +kernel
set_option maxRecDepth 8000 in
theorem cw_Wo_lateInAll : Cond.code (pm_nm m_Wo_lateInAll) (pm_by m_Wo_lateInAll) (pm_ml m_Wo_lateInAll) (pm_rt m_Wo_lateInAll) ∈ tables_1 := tj6 (List.mem_of_getElem? (i := 143) rfl)
theorem okW_Wo_lateInAll : pm_okV m_Wo_lateInAll = true := by decide +kernel
set_option maxRecDepth 8000 in
theorem cw_Wo_lastEnd : Cond.code (pm_nm m_Wo_lastEnd) (pm_by m_Wo_lastEnd) (pm_ml m_Wo_lastEnd) (pm_rt m_Wo_lastEnd) ∈ tables_1 := tj6 (List.mem_of_getElem? (i := 147) rfl)
theorem okW_Wo_lastEnd : pm_okV m_Wo_lastEnd = true := by decide +kernel
set_option maxRecDepth 8000 in
theorem cw_Wo_changesOfColour : Cond.code (pm_nm m_Wo_changesOfColour) (pm_by m_Wo_changesOfColour) (pm_ml m_Wo_changesOfColour) (pm_rt m_Wo_changesOfColour) ∈ tables_1 := tj6 (List.mem_of_getElem? (i := 151) rfl)
theorem okW_Wo_changesOfColour : pm_okV m_Wo_changesOfColour = true := by decide +kernel
set_option maxRecDepth 8000 in
theorem cw_Ro_inPlan : Cond.code (pm_nm m_Ro_inPlan) (pm_by m_Ro_inPlan) (pm_ml m_Ro_inPlan) (pm_rt m_Ro_inPlan) ∈ tables_1 := tj6 (List.mem_of_getElem? (i := 155) rfl)
theorem okW_Ro_inPlan : pm_okV m_Ro_inPlan = true := by decide +kernel
set_option maxRecDepth 8000 in
theorem cw_Ro_lostInAll : Cond.code (pm_nm m_Ro_lostInAll) (pm_by m_Ro_lostInAll) (pm_ml m_Ro_lostInAll) (pm_rt m_Ro_lostInAll) ∈ tables_1 := tj6 (List.mem_of_getElem? (i := 159) rfl)
theorem okW_Ro_lostInAll : pm_okV m_Ro_lostInAll = true := by decide +kernel
set_option maxRecDepth 8000 in
theorem cw_Pr_sheetsPrinted : Cond.code (pm_nm m_Pr_sheetsPrinted) (pm_by m_Pr_sheetsPrinted) (pm_ml m_Pr_sheetsPrinted) (pm_rt m_Pr_sheetsPrinted) ∈ tables_1 := tj6 (List.mem_of_getElem? (i := 164) rfl)
theorem okW_Pr_sheetsPrinted : pm_okV m_Pr_sheetsPrinted = true := by decide +kernel
set_option maxRecDepth 8000 in
theorem cw_Pr_sheetsGood : Cond.code (pm_nm m_Pr_sheetsGood) (pm_by m_Pr_sheetsGood) (pm_ml m_Pr_sheetsGood) (pm_rt m_Pr_sheetsGood) ∈ tables_1 := tj6 (List.mem_of_getElem? (i := 168) rfl)
theorem okW_Pr_sheetsGood : pm_okV m_Pr_sheetsGood = true := by decide +kernel
set_option maxRecDepth 8000 in
theorem cw_Ty_linesStanding : Cond.code (pm_nm m_Ty_linesStanding) (pm_by m_Ty_linesStanding) (pm_ml m_Ty_linesStanding) (pm_rt m_Ty_linesStanding) ∈ tables_1 := tj6 (List.mem_of_getElem? (i := 172) rfl)
theorem okW_Ty_linesStanding : pm_okV m_Ty_linesStanding = true := by decide +kernel
set_option maxRecDepth 8000 in
theorem cw_Pi_howMany : Cond.code (pm_nm m_Pi_howMany) (pm_by m_Pi_howMany) (pm_ml m_Pi_howMany) (pm_rt m_Pi_howMany) ∈ tables_1 := tj6 (List.mem_of_getElem? (i := 176) rfl)
theorem okW_Pi_howMany : pm_okV m_Pi_howMany = true := by decide +kernel
set_option maxRecDepth 8000 in
theorem cw_Wo_howMany : Cond.code (pm_nm m_Wo_howMany) (pm_by m_Wo_howMany) (pm_ml m_Wo_howMany) (pm_rt m_Wo_howMany) ∈ tables_1 := tj6 (List.mem_of_getElem? (i := 181) rfl)
theorem okW_Wo_howMany : pm_okV m_Wo_howMany = true := by decide +kernel
set_option maxRecDepth 8000 in
theorem cw_Mo_init : Cond.code (pm_nm m_Mo_init) (pm_by m_Mo_init) (pm_ml m_Mo_init) (pm_rt m_Mo_init) ∈ tables_1 := tj6 (List.mem_of_getElem? (i := 186) rfl)
theorem okW_Mo_init : pm_okV m_Mo_init = true := by decide +kernel
set_option maxRecDepth 8000 in
theorem cw_Mo_turned : Cond.code (pm_nm m_Mo_turned) (pm_by m_Mo_turned) (pm_ml m_Mo_turned) (pm_rt m_Mo_turned) ∈ tables_1 := tj6 (List.mem_of_getElem? (i := 191) rfl)
theorem okW_Mo_turned : pm_okV m_Mo_turned = true := by decide +kernel
set_option maxRecDepth 8000 in
theorem cw_Mo_feed : Cond.code (pm_nm m_Mo_feed) (pm_by m_Mo_feed) (pm_ml m_Mo_feed) (pm_rt m_Mo_feed) ∈ tables_1 := tj7 (List.mem_of_getElem? (i := 232) rfl)
theorem okW_Mo_feed : pm_okV m_Mo_feed = true := by decide +kernel
set_option maxRecDepth 8000 in
theorem cw_Mo_four : Cond.code (pm_nm m_Mo_four) (pm_by m_Mo_four) (pm_ml m_Mo_four) (pm_rt m_Mo_four) ∈ tables_1 := tj7 (List.mem_of_getElem? (i := 236) rfl)
theorem okW_Mo_four : pm_okV m_Mo_four = true := by decide +kernel
set_option maxRecDepth 8000 in
theorem cw_Mo_end : Cond.code (pm_nm m_Mo_end) (pm_by m_Mo_end) (pm_ml m_Mo_end) (pm_rt m_Mo_end) ∈ tables_1 := tj8 (List.mem_of_getElem? (i := 0) rfl)
theorem okW_Mo_end : pm_okV m_Mo_end = true := by decide +kernel
set_option maxRecDepth 8000 in
theorem cw_Mo_cut : Cond.code (pm_nm m_Mo_cut) (pm_by m_Mo_cut) (pm_ml m_Mo_cut) (pm_rt m_Mo_cut) ∈ tables_1 := tj8 (List.mem_of_getElem? (i := 4) rfl)
theorem okW_Mo_cut : pm_okV m_Mo_cut = true := by decide +kernel
set_option maxRecDepth 8000 in
theorem cw_Mo_take : Cond.code (pm_nm m_Mo_take) (pm_by m_Mo_take) (pm_ml m_Mo_take) (pm_rt m_Mo_take) ∈ tables_1 := tj8 (List.mem_of_getElem? (i := 8) rfl)
theorem okW_Mo_take : pm_okV m_Mo_take = true := by decide +kernel
set_option maxRecDepth 8000 in
theorem cw_Mo_isWord : Cond.code (pm_nm m_Mo_isWord) (pm_by m_Mo_isWord) (pm_ml m_Mo_isWord) (pm_rt m_Mo_isWord) ∈ tables_1 := tj8 (List.mem_of_getElem? (i := 13) rfl)
theorem okW_Mo_isWord : pm_okV m_Mo_isWord = true := by decide +kernel
set_option maxRecDepth 8000 in
theorem cw_Mo_wordEnd : Cond.code (pm_nm m_Mo_wordEnd) (pm_by m_Mo_wordEnd) (pm_ml m_Mo_wordEnd) (pm_rt m_Mo_wordEnd) ∈ tables_1 := tj8 (List.mem_of_getElem? (i := 17) rfl)
theorem okW_Mo_wordEnd : pm_okV m_Mo_wordEnd = true := by decide +kernel
set_option maxRecDepth 8000 in
theorem cw_Mo_isSmall : Cond.code (pm_nm m_Mo_isSmall) (pm_by m_Mo_isSmall) (pm_ml m_Mo_isSmall) (pm_rt m_Mo_isSmall) ∈ tables_1 := tj8 (List.mem_of_getElem? (i := 20) rfl)
theorem okW_Mo_isSmall : pm_okV m_Mo_isSmall = true := by decide +kernel
set_option maxRecDepth 8000 in
theorem cw_Mo_isDigit : Cond.code (pm_nm m_Mo_isDigit) (pm_by m_Mo_isDigit) (pm_ml m_Mo_isDigit) (pm_rt m_Mo_isDigit) ∈ tables_1 := tj8 (List.mem_of_getElem? (i := 23) rfl)
theorem okW_Mo_isDigit : pm_okV m_Mo_isDigit = true := by decide +kernel
set_option maxRecDepth 8000 in
theorem cw_Mo_fail : Cond.code (pm_nm m_Mo_fail) (pm_by m_Mo_fail) (pm_ml m_Mo_fail) (pm_rt m_Mo_fail) ∈ tables_1 := tj8 (List.mem_of_getElem? (i := 29) rfl)
theorem okW_Mo_fail : pm_okV m_Mo_fail = true := by decide +kernel
set_option maxRecDepth 8000 in
theorem cw_Mo_behind : Cond.code (pm_nm m_Mo_behind) (pm_by m_Mo_behind) (pm_ml m_Mo_behind) (pm_rt m_Mo_behind) ∈ tables_1 := tj8 (List.mem_of_getElem? (i := 33) rfl)
theorem okW_Mo_behind : pm_okV m_Mo_behind = true := by decide +kernel
set_option maxRecDepth 8000 in
theorem cw_Mo_need : Cond.code (pm_nm m_Mo_need) (pm_by m_Mo_need) (pm_ml m_Mo_need) (pm_rt m_Mo_need) ∈ tables_1 := tj8 (List.mem_of_getElem? (i := 37) rfl)
theorem okW_Mo_need : pm_okV m_Mo_need = true := by decide +kernel
set_option maxRecDepth 8000 in
theorem cw_Mo_bad : Cond.code (pm_nm m_Mo_bad) (pm_by m_Mo_bad) (pm_ml m_Mo_bad) (pm_rt m_Mo_bad) ∈ tables_1 := tj8 (List.mem_of_getElem? (i := 41) rfl)
theorem okW_Mo_bad : pm_okV m_Mo_bad = true := by decide +kernel
set_option maxRecDepth 8000 in
theorem cw_Mo_here : Cond.code (pm_nm m_Mo_here) (pm_by m_Mo_here) (pm_ml m_Mo_here) (pm_rt m_Mo_here) ∈ tables_1 := tj8 (List.mem_of_getElem? (i := 45) rfl)
theorem okW_Mo_here : pm_okV m_Mo_here = true := by decide +kernel
set_option maxRecDepth 8000 in
theorem cw_Mo_told : Cond.code (pm_nm m_Mo_told) (pm_by m_Mo_told) (pm_ml m_Mo_told) (pm_rt m_Mo_told) ∈ tables_1 := tj8 (List.mem_of_getElem? (i := 49) rfl)
theorem okW_Mo_told : pm_okV m_Mo_told = true := by decide +kernel
set_option maxRecDepth 8000 in
theorem cw_Mo_is : Cond.code (pm_nm m_Mo_is) (pm_by m_Mo_is) (pm_ml m_Mo_is) (pm_rt m_Mo_is) ∈ tables_1 := tj8 (List.mem_of_getElem? (i := 52) rfl)
theorem okW_Mo_is : pm_okV m_Mo_is = true := by decide +kernel
set_option maxRecDepth 8000 in
theorem cw_Mo_planned : Cond.code (pm_nm m_Mo_planned) (pm_by m_Mo_planned) (pm_ml m_Mo_planned) (pm_rt m_Mo_planned) ∈ tables_1 := tj8 (List.mem_of_getElem? (i := 57) rfl)
theorem okW_Mo_planned : pm_okV m_Mo_planned = true := by decide +kernel
set_option maxRecDepth 8000 in
theorem cw_Mo_isPattern : Cond.code (pm_nm m_Mo_isPattern) (pm_by m_Mo_isPattern) (pm_ml m_Mo_isPattern) (pm_rt m_Mo_isPattern) ∈ tables_1 := tj8 (List.mem_of_getElem? (i := 61) rfl)
theorem okW_Mo_isPattern : pm_okV m_Mo_isPattern = true := by decide +kernel
set_option maxRecDepth 8000 in
theorem cw_Mo_digit : Cond.code (pm_nm m_Mo_digit) (pm_by m_Mo_digit) (pm_ml m_Mo_digit) (pm_rt m_Mo_digit) ∈ tables_1 := tj8 (List.mem_of_getElem? (i := 64) rfl)
theorem okW_Mo_digit : pm_okV m_Mo_digit = true := by decide +kernel
set_option maxRecDepth 8000 in
theorem cw_Mo_isWithin : Cond.code (pm_nm m_Mo_isWithin) (pm_by m_Mo_isWithin) (pm_ml m_Mo_isWithin) (pm_rt m_Mo_isWithin) ∈ tables_1 := tj8 (List.mem_of_getElem? (i := 67) rfl)
theorem okW_Mo_isWithin : pm_okV m_Mo_isWithin = true := by decide +kernel
set_option maxRecDepth 8000 in
theorem cw_Mo_pattern : Cond.code (pm_nm m_Mo_pattern) (pm_by m_Mo_pattern) (pm_ml m_Mo_pattern) (pm_rt m_Mo_pattern) ∈ tables_1 := tj8 (List.mem_of_getElem? (i := 71) rfl)
theorem okW_Mo_pattern : pm_okV m_Mo_pattern = true := by decide +kernel
set_option maxRecDepth 8000 in
theorem cw_Mo_waste : Cond.code (pm_nm m_Mo_waste) (pm_by m_Mo_waste) (pm_ml m_Mo_waste) (pm_rt m_Mo_waste) ∈ tables_1 := tj8 (List.mem_of_getElem? (i := 75) rfl)
theorem okW_Mo_waste : pm_okV m_Mo_waste = true := by decide +kernel
set_option maxRecDepth 8000 in
theorem cw_Mo_fold : Cond.code (pm_nm m_Mo_fold) (pm_by m_Mo_fold) (pm_ml m_Mo_fold) (pm_rt m_Mo_fold) ∈ tables_1 := tj8 (List.mem_of_getElem? (i := 79) rfl)
theorem okW_Mo_fold : pm_okV m_Mo_fold = true := by decide +kernel
set_option maxRecDepth 8000 in
theorem cw_Mo_power : Cond.code (pm_nm m_Mo_power) (pm_by m_Mo_power) (pm_ml m_Mo_power) (pm_rt m_Mo_power) ∈ tables_1 := tj8 (List.mem_of_getElem? (i := 84) rfl)
theorem okW_Mo_power : pm_okV m_Mo_power = true := by decide +kernel
set_option maxRecDepth 8000 in
theorem cw_Mo_halves : Cond.code (pm_nm m_Mo_halves) (pm_by m_Mo_halves) (pm_ml m_Mo_halves) (pm_rt m_Mo_halves) ∈ tables_1 := tj8 (List.mem_of_getElem? (i := 88) rfl)
theorem okW_Mo_halves : pm_okV m_Mo_halves = true := by decide +kernel
set_option maxRecDepth 8000 in
theorem cw_Mo_book : Cond.code (pm_nm m_Mo_book) (pm_by m_Mo_book) (pm_ml m_Mo_book) (pm_rt m_Mo_book) ∈ tables_1 := tj8 (List.mem_of_getElem? (i := 92) rfl)
theorem okW_Mo_book : pm_okV m_Mo_book = true := by decide +kernel
set_option maxRecDepth 8000 in
theorem cw_Mo_page : Cond.code (pm_nm m_Mo_page) (pm_by m_Mo_page) (pm_ml m_Mo_page) (pm_rt m_Mo_page) ∈ tables_1 := tj8 (List.mem_of_getElem? (i := 96) rfl)
theorem okW_Mo_page : pm_okV m_Mo_page = true := by decide +kernel
set_option maxRecDepth 8000 in
theorem cw_Mo_isPanel : Cond.code (pm_nm m_Mo_isPanel) (pm_by m_Mo_isPanel) (pm_ml m_Mo_isPanel) (pm_rt m_Mo_isPanel) ∈ tables_1 := tj8 (List.mem_of_getElem? (i := 100) rfl)
theorem okW_Mo_isPanel : pm_okV m_Mo_isPanel = true := by decide +kernel
set_option maxRecDepth 8000 in
theorem cw_Mo_pageOf : Cond.code (pm_nm m_Mo_pageOf) (pm_by m_Mo_pageOf) (pm_ml m_Mo_pageOf) (pm_rt m_Mo_pageOf) ∈ tables_1 := tj8 (List.mem_of_getElem? (i := 104) rfl)
theorem okW_Mo_pageOf : pm_okV m_Mo_pageOf = true := by decide +kernel
set_option maxRecDepth 8000 in
theorem cw_Mo_place : Cond.code (pm_nm m_Mo_place) (pm_by m_Mo_place) (pm_ml m_Mo_place) (pm_rt m_Mo_place) ∈ tables_1 := tj8 (List.mem_of_getElem? (i := 108) rfl)
theorem okW_Mo_place : pm_okV m_Mo_place = true := by decide +kernel
set_option maxRecDepth 8000 in
theorem cw_Mo_where : Cond.code (pm_nm m_Mo_where) (pm_by m_Mo_where) (pm_ml m_Mo_where) (pm_rt m_Mo_where) ∈ tables_1 := tj8 (List.mem_of_getElem? (i := 112) rfl)
theorem okW_Mo_where : pm_okV m_Mo_where = true := by decide +kernel
set_option maxRecDepth 8000 in
theorem cw_Mo_draw : Cond.code (pm_nm m_Mo_draw) (pm_by m_Mo_draw) (pm_ml m_Mo_draw) (pm_rt m_Mo_draw) ∈ tables_1 := tj8 (List.mem_of_getElem? (i := 117) rfl)
theorem okW_Mo_draw : pm_okV m_Mo_draw = true := by decide +kernel
set_option maxRecDepth 8000 in
theorem cw_Mo_fill : Cond.code (pm_nm m_Mo_fill) (pm_by m_Mo_fill) (pm_ml m_Mo_fill) (pm_rt m_Mo_fill) ∈ tables_1 := tj8 (List.mem_of_getElem? (i := 123) rfl)
theorem okW_Mo_fill : pm_okV m_Mo_fill = true := by decide +kernel
set_option maxRecDepth 8000 in
theorem cw_Mo_point : Cond.code (pm_nm m_Mo_point) (pm_by m_Mo_point) (pm_ml m_Mo_point) (pm_rt m_Mo_point) ∈ tables_1 := tj8 (List.mem_of_getElem? (i := 128) rfl)
theorem okW_Mo_point : pm_okV m_Mo_point = true := by decide +kernel
set_option maxRecDepth 8000 in
theorem cw_Mo_isSide : Cond.code (pm_nm m_Mo_isSide) (pm_by m_Mo_isSide) (pm_ml m_Mo_isSide) (pm_rt m_Mo_isSide) ∈ tables_1 := tj8 (List.mem_of_getElem? (i := 132) rfl)
theorem okW_Mo_isSide : pm_okV m_Mo_isSide = true := by decide +kernel
set_option maxRecDepth 8000 in
theorem cw_Mo_pointAt : Cond.code (pm_nm m_Mo_pointAt) (pm_by m_Mo_pointAt) (pm_ml m_Mo_pointAt) (pm_rt m_Mo_pointAt) ∈ tables_1 := tj8 (List.mem_of_getElem? (i := 136) rfl)
theorem okW_Mo_pointAt : pm_okV m_Mo_pointAt = true := by decide +kernel
set_option maxRecDepth 8000 in
theorem cw_Mo_mount : Cond.code (pm_nm m_Mo_mount) (pm_by m_Mo_mount) (pm_ml m_Mo_mount) (pm_rt m_Mo_mount) ∈ tables_1 := tj8 (List.mem_of_getElem? (i := 140) rfl)
theorem okW_Mo_mount : pm_okV m_Mo_mount = true := by decide +kernel
set_option maxRecDepth 8000 in
theorem cw_Mo_key : Cond.code (pm_nm m_Mo_key) (pm_by m_Mo_key) (pm_ml m_Mo_key) (pm_rt m_Mo_key) ∈ tables_1 := tj8 (List.mem_of_getElem? (i := 144) rfl)
theorem okW_Mo_key : pm_okV m_Mo_key = true := by decide +kernel
set_option maxRecDepth 8000 in
theorem cw_Mo_aim : Cond.code (pm_nm m_Mo_aim) (pm_by m_Mo_aim) (pm_ml m_Mo_aim) (pm_rt m_Mo_aim) ∈ tables_1 := tj8 (List.mem_of_getElem? (i := 148) rfl)
theorem okW_Mo_aim : pm_okV m_Mo_aim = true := by decide +kernel
set_option maxRecDepth 8000 in
theorem cw_Mo_settled : Cond.code (pm_nm m_Mo_settled) (pm_by m_Mo_settled) (pm_ml m_Mo_settled) (pm_rt m_Mo_settled) ∈ tables_1 := tj8 (List.mem_of_getElem? (i := 152) rfl)
theorem okW_Mo_settled : pm_okV m_Mo_settled = true := by decide +kernel
set_option maxRecDepth 8000 in
theorem cw_Mo_isZone : Cond.code (pm_nm m_Mo_isZone) (pm_by m_Mo_isZone) (pm_ml m_Mo_isZone) (pm_rt m_Mo_isZone) ∈ tables_1 := tj8 (List.mem_of_getElem? (i := 156) rfl)
theorem okW_Mo_isZone : pm_okV m_Mo_isZone = true := by decide +kernel
set_option maxRecDepth 8000 in
theorem cw_Mo_inked : Cond.code (pm_nm m_Mo_inked) (pm_by m_Mo_inked) (pm_ml m_Mo_inked) (pm_rt m_Mo_inked) ∈ tables_1 := tj8 (List.mem_of_getElem? (i := 160) rfl)
theorem okW_Mo_inked : pm_okV m_Mo_inked = true := by decide +kernel
set_option maxRecDepth 8000 in
theorem cw_Jm_floorDiv_JJ : Cond.code (pm_nm m_Jm_floorDiv_JJ) (pm_by m_Jm_floorDiv_JJ) (pm_ml m_Jm_floorDiv_JJ) (pm_rt m_Jm_floorDiv_JJ) ∈ tables_1 := tj8 (List.mem_of_getElem? (i := 164) rfl)
theorem okW_Jm_floorDiv_JJ : pm_okV m_Jm_floorDiv_JJ = true := by decide +kernel
set_option maxRecDepth 8000 in
theorem cw_Mo_print : Cond.code (pm_nm m_Mo_print) (pm_by m_Mo_print) (pm_ml m_Mo_print) (pm_rt m_Mo_print) ∈ tables_1 := tj8 (List.mem_of_getElem? (i := 169) rfl)
theorem okW_Mo_print : pm_okV m_Mo_print = true := by decide +kernel
set_option maxRecDepth 8000 in
theorem cw_Mo_sheet : Cond.code (pm_nm m_Mo_sheet) (pm_by m_Mo_sheet) (pm_ml m_Mo_sheet) (pm_rt m_Mo_sheet) ∈ tables_1 := tj8 (List.mem_of_getElem? (i := 173) rfl)
theorem okW_Mo_sheet : pm_okV m_Mo_sheet = true := by decide +kernel
set_option maxRecDepth 8000 in
theorem cw_Mo_shown : Cond.code (pm_nm m_Mo_shown) (pm_by m_Mo_shown) (pm_ml m_Mo_shown) (pm_rt m_Mo_shown) ∈ tables_1 := tj8 (List.mem_of_getElem? (i := 176) rfl)
theorem okW_Mo_shown : pm_okV m_Mo_shown = true := by decide +kernel
set_option maxRecDepth 8000 in
theorem cw_Jm_min_JJ : Cond.code (pm_nm m_Jm_min_JJ) (pm_by m_Jm_min_JJ) (pm_ml m_Jm_min_JJ) (pm_rt m_Jm_min_JJ) ∈ tables_1 := tj8 (List.mem_of_getElem? (i := 180) rfl)
theorem okW_Jm_min_JJ : pm_okV m_Jm_min_JJ = true := by decide +kernel
set_option maxRecDepth 8000 in
theorem cw_Jm_abs_J : Cond.code (pm_nm m_Jm_abs_J) (pm_by m_Jm_abs_J) (pm_ml m_Jm_abs_J) (pm_rt m_Jm_abs_J) ∈ tables_1 := tj8 (List.mem_of_getElem? (i := 183) rfl)
theorem okW_Jm_abs_J : pm_okV m_Jm_abs_J = true := by decide +kernel
set_option maxRecDepth 8000 in
theorem cw_Mo_good : Cond.code (pm_nm m_Mo_good) (pm_by m_Mo_good) (pm_ml m_Mo_good) (pm_rt m_Mo_good) ∈ tables_1 := tj8 (List.mem_of_getElem? (i := 187) rfl)
theorem okW_Mo_good : pm_okV m_Mo_good = true := by decide +kernel
set_option maxRecDepth 8000 in
theorem cw_Mo_zone : Cond.code (pm_nm m_Mo_zone) (pm_by m_Mo_zone) (pm_ml m_Mo_zone) (pm_rt m_Mo_zone) ∈ tables_1 := tj8 (List.mem_of_getElem? (i := 191) rfl)
theorem okW_Mo_zone : pm_okV m_Mo_zone = true := by decide +kernel
set_option maxRecDepth 8000 in
theorem cw_Mo_number : Cond.code (pm_nm m_Mo_number) (pm_by m_Mo_number) (pm_ml m_Mo_number) (pm_rt m_Mo_number) ∈ tables_1 := tj8 (List.mem_of_getElem? (i := 195) rfl)
theorem okW_Mo_number : pm_okV m_Mo_number = true := by decide +kernel
set_option maxRecDepth 8000 in
theorem cw_Mo_sorts : Cond.code (pm_nm m_Mo_sorts) (pm_by m_Mo_sorts) (pm_ml m_Mo_sorts) (pm_rt m_Mo_sorts) ∈ tables_1 := tj8 (List.mem_of_getElem? (i := 199) rfl)
theorem okW_Mo_sorts : pm_okV m_Mo_sorts = true := by decide +kernel
set_option maxRecDepth 8000 in
theorem cw_Mo_set : Cond.code (pm_nm m_Mo_set) (pm_by m_Mo_set) (pm_ml m_Mo_set) (pm_rt m_Mo_set) ∈ tables_1 := tj8 (List.mem_of_getElem? (i := 203) rfl)
theorem okW_Mo_set : pm_okV m_Mo_set = true := by decide +kernel
set_option maxRecDepth 8000 in
theorem cw_Mo_laid : Cond.code (pm_nm m_Mo_laid) (pm_by m_Mo_laid) (pm_ml m_Mo_laid) (pm_rt m_Mo_laid) ∈ tables_1 := tj8 (List.mem_of_getElem? (i := 207) rfl)
theorem okW_Mo_laid : pm_okV m_Mo_laid = true := by decide +kernel
set_option maxRecDepth 8000 in
theorem cw_Mo_wordWidth : Cond.code (pm_nm m_Mo_wordWidth) (pm_by m_Mo_wordWidth) (pm_ml m_Mo_wordWidth) (pm_rt m_Mo_wordWidth) ∈ tables_1 := tj8 (List.mem_of_getElem? (i := 211) rfl)
theorem okW_Mo_wordWidth : pm_okV m_Mo_wordWidth = true := by decide +kernel
set_option maxRecDepth 8000 in
theorem cw_Mo_lineFrom : Cond.code (pm_nm m_Mo_lineFrom) (pm_by m_Mo_lineFrom) (pm_ml m_Mo_lineFrom) (pm_rt m_Mo_lineFrom) ∈ tables_1 := tj8 (List.mem_of_getElem? (i := 215) rfl)
theorem okW_Mo_lineFrom : pm_okV m_Mo_lineFrom = true := by decide +kernel
set_option maxRecDepth 8000 in
theorem cw_Mo_distribute : Cond.code (pm_nm m_Mo_distribute) (pm_by m_Mo_distribute) (pm_ml m_Mo_distribute) (pm_rt m_Mo_distribute) ∈ tables_1 := tj8 (List.mem_of_getElem? (i := 219) rfl)
theorem okW_Mo_distribute : pm_okV m_Mo_distribute = true := by decide +kernel
set_option maxRecDepth 8000 in
theorem cw_Mo_isLine : Cond.code (pm_nm m_Mo_isLine) (pm_by m_Mo_isLine) (pm_ml m_Mo_isLine) (pm_rt m_Mo_isLine) ∈ tables_1 := tj8 (List.mem_of_getElem? (i := 223) rfl)
theorem okW_Mo_isLine : pm_okV m_Mo_isLine = true := by decide +kernel
set_option maxRecDepth 8000 in
theorem cw_Mo_line : Cond.code (pm_nm m_Mo_line) (pm_by m_Mo_line) (pm_ml m_Mo_line) (pm_rt m_Mo_line) ∈ tables_1 := tj8 (List.mem_of_getElem? (i := 227) rfl)
theorem okW_Mo_line : pm_okV m_Mo_line = true := by decide +kernel
set_option maxRecDepth 8000 in
theorem cw_Mo_strip : Cond.code (pm_nm m_Mo_strip) (pm_by m_Mo_strip) (pm_ml m_Mo_strip) (pm_rt m_Mo_strip) ∈ tables_1 := tj8 (List.mem_of_getElem? (i := 231) rfl)
theorem okW_Mo_strip : pm_okV m_Mo_strip = true := by decide +kernel
set_option maxRecDepth 8000 in
theorem cw_Mo_left : Cond.code (pm_nm m_Mo_left) (pm_by m_Mo_left) (pm_ml m_Mo_left) (pm_rt m_Mo_left) ∈ tables_1 := tj8 (List.mem_of_getElem? (i := 235) rfl)
theorem okW_Mo_left : pm_okV m_Mo_left = true := by decide +kernel
set_option maxRecDepth 8000 in
theorem cw_Mo_pile : Cond.code (pm_nm m_Mo_pile) (pm_by m_Mo_pile) (pm_ml m_Mo_pile) (pm_rt m_Mo_pile) ∈ tables_1 := tj8 (List.mem_of_getElem? (i := 239) rfl)
theorem okW_Mo_pile : pm_okV m_Mo_pile = true := by decide +kernel
set_option maxRecDepth 8000 in
theorem cw_Mo_piece : Cond.code (pm_nm m_Mo_piece) (pm_by m_Mo_piece) (pm_ml m_Mo_piece) (pm_rt m_Mo_piece) ∈ tables_1 := tj9 (List.mem_of_getElem? (i := 5) rfl)
theorem okW_Mo_piece : pm_okV m_Mo_piece = true := by decide +kernel
set_option maxRecDepth 8000 in
theorem cw_Mo_on : Cond.code (pm_nm m_Mo_on) (pm_by m_Mo_on) (pm_ml m_Mo_on) (pm_rt m_Mo_on) ∈ tables_1 := tj9 (List.mem_of_getElem? (i := 9) rfl)
theorem okW_Mo_on : pm_okV m_Mo_on = true := by decide +kernel
set_option maxRecDepth 8000 in
theorem cw_Mo_gather : Cond.code (pm_nm m_Mo_gather) (pm_by m_Mo_gather) (pm_ml m_Mo_gather) (pm_rt m_Mo_gather) ∈ tables_1 := tj9 (List.mem_of_getElem? (i := 13) rfl)
theorem okW_Mo_gather : pm_okV m_Mo_gather = true := by decide +kernel
set_option maxRecDepth 8000 in
theorem cw_Mo_letters : Cond.code (pm_nm m_Mo_letters) (pm_by m_Mo_letters) (pm_ml m_Mo_letters) (pm_rt m_Mo_letters) ∈ tables_1 := tj9 (List.mem_of_getElem? (i := 17) rfl)
theorem okW_Mo_letters : pm_okV m_Mo_letters = true := by decide +kernel
set_option maxRecDepth 8000 in
theorem cw_Mo_nameHere : Cond.code (pm_nm m_Mo_nameHere) (pm_by m_Mo_nameHere) (pm_ml m_Mo_nameHere) (pm_rt m_Mo_nameHere) ∈ tables_1 := tj9 (List.mem_of_getElem? (i := 21) rfl)
theorem okW_Mo_nameHere : pm_okV m_Mo_nameHere = true := by decide +kernel
set_option maxRecDepth 8000 in
theorem cw_Mo_bundled : Cond.code (pm_nm m_Mo_bundled) (pm_by m_Mo_bundled) (pm_ml m_Mo_bundled) (pm_rt m_Mo_bundled) ∈ tables_1 := tj9 (List.mem_of_getElem? (i := 25) rfl)
theorem okW_Mo_bundled : pm_okV m_Mo_bundled = true := by decide +kernel
set_option maxRecDepth 8000 in
theorem cw_Mo_isAhead : Cond.code (pm_nm m_Mo_isAhead) (pm_by m_Mo_isAhead) (pm_ml m_Mo_isAhead) (pm_rt m_Mo_isAhead) ∈ tables_1 := tj9 (List.mem_of_getElem? (i := 29) rfl)
theorem okW_Mo_isAhead : pm_okV m_Mo_isAhead = true := by decide +kernel
set_option maxRecDepth 8000 in
theorem cw_Mo_stage : Cond.code (pm_nm m_Mo_stage) (pm_by m_Mo_stage) (pm_ml m_Mo_stage) (pm_rt m_Mo_stage) ∈ tables_1 := tj9 (List.mem_of_getElem? (i := 33) rfl)
theorem okW_Mo_stage : pm_okV m_Mo_stage = true := by decide +kernel
set_option maxRecDepth 8000 in
theorem cw_Mo_bundles : Cond.code (pm_nm m_Mo_bundles) (pm_by m_Mo_bundles) (pm_ml m_Mo_bundles) (pm_rt m_Mo_bundles) ∈ tables_1 := tj9 (List.mem_of_getElem? (i := 38) rfl)
theorem okW_Mo_bundles : pm_okV m_Mo_bundles = true := by decide +kernel
set_option maxRecDepth 8000 in
theorem cw_Mo_letter : Cond.code (pm_nm m_Mo_letter) (pm_by m_Mo_letter) (pm_ml m_Mo_letter) (pm_rt m_Mo_letter) ∈ tables_1 := tj9 (List.mem_of_getElem? (i := 42) rfl)
theorem okW_Mo_letter : pm_okV m_Mo_letter = true := by decide +kernel
set_option maxRecDepth 8000 in
theorem cw_Mo_nameByte : Cond.code (pm_nm m_Mo_nameByte) (pm_by m_Mo_nameByte) (pm_ml m_Mo_nameByte) (pm_rt m_Mo_nameByte) ∈ tables_1 := tj9 (List.mem_of_getElem? (i := 46) rfl)
theorem okW_Mo_nameByte : pm_okV m_Mo_nameByte = true := by decide +kernel
set_option maxRecDepth 8000 in
theorem cw_Mo_bundle : Cond.code (pm_nm m_Mo_bundle) (pm_by m_Mo_bundle) (pm_ml m_Mo_bundle) (pm_rt m_Mo_bundle) ∈ tables_1 := tj9 (List.mem_of_getElem? (i := 51) rfl)
theorem okW_Mo_bundle : pm_okV m_Mo_bundle = true := by decide +kernel
set_option maxRecDepth 8000 in
theorem cw_Mo_strike : Cond.code (pm_nm m_Mo_strike) (pm_by m_Mo_strike) (pm_ml m_Mo_strike) (pm_rt m_Mo_strike) ∈ tables_1 := tj9 (List.mem_of_getElem? (i := 55) rfl)
theorem okW_Mo_strike : pm_okV m_Mo_strike = true := by decide +kernel
set_option maxRecDepth 8000 in
theorem cw_Mo_job : Cond.code (pm_nm m_Mo_job) (pm_by m_Mo_job) (pm_ml m_Mo_job) (pm_rt m_Mo_job) ∈ tables_1 := tj9 (List.mem_of_getElem? (i := 59) rfl)
theorem okW_Mo_job : pm_okV m_Mo_job = true := by decide +kernel
set_option maxRecDepth 8000 in
theorem cw_Mo_ordered : Cond.code (pm_nm m_Mo_ordered) (pm_by m_Mo_ordered) (pm_ml m_Mo_ordered) (pm_rt m_Mo_ordered) ∈ tables_1 := tj9 (List.mem_of_getElem? (i := 63) rfl)
theorem okW_Mo_ordered : pm_okV m_Mo_ordered = true := by decide +kernel
set_option maxRecDepth 8000 in
theorem cw_Mo_times : Cond.code (pm_nm m_Mo_times) (pm_by m_Mo_times) (pm_ml m_Mo_times) (pm_rt m_Mo_times) ∈ tables_1 := tj9 (List.mem_of_getElem? (i := 67) rfl)
theorem okW_Mo_times : pm_okV m_Mo_times = true := by decide +kernel
set_option maxRecDepth 8000 in
theorem cw_Mo_drop : Cond.code (pm_nm m_Mo_drop) (pm_by m_Mo_drop) (pm_ml m_Mo_drop) (pm_rt m_Mo_drop) ∈ tables_1 := tj9 (List.mem_of_getElem? (i := 71) rfl)
theorem okW_Mo_drop : pm_okV m_Mo_drop = true := by decide +kernel
set_option maxRecDepth 8000 in
theorem cw_Mo_order : Cond.code (pm_nm m_Mo_order) (pm_by m_Mo_order) (pm_ml m_Mo_order) (pm_rt m_Mo_order) ∈ tables_1 := tj9 (List.mem_of_getElem? (i := 75) rfl)
theorem okW_Mo_order : pm_okV m_Mo_order = true := by decide +kernel
set_option maxRecDepth 8000 in
theorem cw_Mo_findOrder : Cond.code (pm_nm m_Mo_findOrder) (pm_by m_Mo_findOrder) (pm_ml m_Mo_findOrder) (pm_rt m_Mo_findOrder) ∈ tables_1 := tj9 (List.mem_of_getElem? (i := 79) rfl)
theorem okW_Mo_findOrder : pm_okV m_Mo_findOrder = true := by decide +kernel
set_option maxRecDepth 8000 in
theorem cw_Mo_runs : Cond.code (pm_nm m_Mo_runs) (pm_by m_Mo_runs) (pm_ml m_Mo_runs) (pm_rt m_Mo_runs) ∈ tables_1 := tj9 (List.mem_of_getElem? (i := 83) rfl)
theorem okW_Mo_runs : pm_okV m_Mo_runs = true := by decide +kernel
set_option maxRecDepth 8000 in
theorem cw_Mo_when : Cond.code (pm_nm m_Mo_when) (pm_by m_Mo_when) (pm_ml m_Mo_when) (pm_rt m_Mo_when) ∈ tables_1 := tj9 (List.mem_of_getElem? (i := 88) rfl)
theorem okW_Mo_when : pm_okV m_Mo_when = true := by decide +kernel
set_option maxRecDepth 8000 in
theorem cw_Mo_count : Cond.code (pm_nm m_Mo_count) (pm_by m_Mo_count) (pm_ml m_Mo_count) (pm_rt m_Mo_count) ∈ tables_1 := tj9 (List.mem_of_getElem? (i := 92) rfl)
theorem okW_Mo_count : pm_okV m_Mo_count = true := by decide +kernel
def pm_ok (Y : pm_M) : Prop := pm_okC Y = true ∧ pm_okV Y = true ∧ Cond.code (pm_nm Y) (pm_by Y) (pm_ml Y) (pm_rt Y) ∈ tables_1
theorem pm_mzS {P : pm_M → Prop} {b : Bool} {m : pm_M} (h : P m) : ∀ Y, cond b (some m) none = some Y → P Y := fun Y e => by cases b <;> cases e; exact h
theorem pm_mzC {P : pm_M → Prop} {b : Bool} {A B : Option pm_M} (hA : ∀ Y, A = some Y → P Y) (hB : ∀ Y, B = some Y → P Y) : ∀ Y, cond b A B = some Y → P Y := fun Y e => by cases b; exact hB Y e; exact hA Y e
theorem pm_all_ok (z : Nat) : ∀ Y, pm_mz z = some Y → pm_ok Y := (pm_mzC (pm_mzC (pm_mzC (pm_mzC (pm_mzC (pm_mzC (pm_mzC (pm_mzC (pm_mzS ⟨okC_Ph_init, okW_Ph_init, cw_Ph_init⟩) (pm_mzS ⟨okC_Ta_init, okW_Ta_init, cw_Ta_init⟩)) (pm_mzC (pm_mzS ⟨okC_Ro_init, okW_Ro_init, cw_Ro_init⟩) (pm_mzS ⟨okC_Fo_init, okW_Fo_init, cw_Fo_init⟩))) (pm_mzC (pm_mzC (pm_mzS ⟨okC_Fo_foldSheet, okW_Fo_foldSheet, cw_Fo_foldSheet⟩) (pm_mzS ⟨okC_Fo_foldOver, okW_Fo_foldOver, cw_Fo_foldOver⟩)) (pm_mzC (pm_mzS ⟨okC_Fo_isAcross, okW_Fo_isAcross, cw_Fo_isAcross⟩) (pm_mzC (pm_mzS ⟨okC_Fo_layOver, okW_Fo_layOver, cw_Fo_layOver⟩) (pm_mzS ⟨okC_Fo_leaves, okW_Fo_leaves, cw_Fo_leaves⟩))))) (pm_mzC (pm_mzC (pm_mzC (pm_mzS ⟨okC_Pl_init, okW_Pl_init, cw_Pl_init⟩) (pm_mzS ⟨okC_Pr_init, okW_Pr_init, cw_Pr_init⟩)) (pm_mzC (pm_mzS ⟨okC_Ty_init, okW_Ty_init, cw_Ty_init⟩) (pm_mzS ⟨okC_Tl_init, okW_Tl_init, cw_Tl_init⟩))) (pm_mzC (pm_mzC (pm_mzS ⟨okC_Ma_init, okW_Ma_init, cw_Ma_init⟩) (pm_mzS ⟨okC_Bu_init, okW_Bu_init, cw_Bu_init⟩)) (pm_mzC (pm_mzS ⟨okC_Wo_init, okW_Wo_init, cw_Wo_init⟩) (pm_mzC (pm_mzS ⟨okC_Pi_init, okW_Pi_init, cw_Pi_init⟩) (pm_mzS ⟨okC_Ph_feed, okW_Ph_feed, cw_Ph_feed⟩)))))) (pm_mzC (pm_mzC (pm_mzC (pm_mzC (pm_mzS ⟨okC_Ta_hasRoomFor, okW_Ta_hasRoomFor, cw_Ta_hasRoomFor⟩) (pm_mzS ⟨okC_Ta_append, okW_Ta_append, cw_Ta_append⟩)) (pm_mzC (pm_mzS ⟨okC_Ta_length, okW_Ta_length, cw_Ta_length⟩) (pm_mzS ⟨okC_Ph_end, okW_Ph_end, cw_Ph_end⟩))) (pm_mzC (pm_mzC (pm_mzS ⟨okC_Ta_shorten, okW_Ta_shorten, cw_Ta_shorten⟩) (pm_mzS ⟨okC_Ph_cut, okW_Ph_cut, cw_Ph_cut⟩)) (pm_mzC (pm_mzS ⟨okC_Ta_open, okW_Ta_open, cw_Ta_open⟩) (pm_mzC (pm_mzS ⟨okC_Ro_takeText, okW_Ro_takeText, cw_Ro_takeText⟩) (pm_mzS ⟨okC_Ta_readKeyword, okW_Ta_readKeyword, cw_Ta_readKeyword⟩))))) (pm_mzC (pm_mzC (pm_mzC (pm_mzS ⟨okC_Ta_readLetters, okW_Ta_readLetters, cw_Ta_readLetters⟩) (pm_mzS ⟨okC_Ta_next, okW_Ta_next, cw_Ta_next⟩)) (pm_mzC (pm_mzS ⟨okC_Ta_isLetter, okW_Ta_isLetter, cw_Ta_isLetter⟩) (pm_mzC (pm_mzS ⟨okC_Ta_isDigit, okW_Ta_isDigit, cw_Ta_isDigit⟩) (pm_mzS ⟨okC_Ta_blame, okW_Ta_blame, cw_Ta_blame⟩)))) (pm_mzC (pm_mzC (pm_mzS ⟨okC_Ta_wordIs, okW_Ta_wordIs, cw_Ta_wordIs⟩) (pm_mzS ⟨okC_Ta_byteAt, okW_Ta_byteAt, cw_Ta_byteAt⟩)) (pm_mzC (pm_mzS ⟨okC_Ta_blameToken, okW_Ta_blameToken, cw_Ta_blameToken⟩) (pm_mzC (pm_mzS ⟨okC_Ta_readNextNumber, okW_Ta_readNextNumber, cw_Ta_readNextNumber⟩) (pm_mzS ⟨okC_Ta_expect, okW_Ta_expect, cw_Ta_expect⟩))))))) (pm_mzC (pm_mzC (pm_mzC (pm_mzC (pm_mzC (pm_mzS ⟨okC_Ta_takes, okW_Ta_takes, cw_Ta_takes⟩) (pm_mzS ⟨okC_Ta_hasMore, okW_Ta_hasMore, cw_Ta_hasMore⟩)) (pm_mzC (pm_mzS ⟨okC_Ta_readNumber, okW_Ta_readNumber, cw_Ta_readNumber⟩) (pm_mzS ⟨okC_Ro_readLine, okW_Ro_readLine, cw_Ro_readLine⟩))) (pm_mzC (pm_mzC (pm_mzS ⟨okC_Jm_min_II, okW_Jm_min_II, cw_Jm_min_II⟩) (pm_mzS ⟨okC_Ta_finish, okW_Ta_finish, cw_Ta_finish⟩)) (pm_mzC (pm_mzS ⟨okC_Ta_isRight, okW_Ta_isRight, cw_Ta_isRight⟩) (pm_mzC (pm_mzS ⟨okC_Ro_adopt, okW_Ro_adopt, cw_Ro_adopt⟩) (pm_mzS ⟨okC_Ro_countFewest, okW_Ro_countFewest, cw_Ro_countFewest⟩))))) (pm_mzC (pm_mzC (pm_mzC (pm_mzS ⟨okC_Ro_wholeState, okW_Ro_wholeState, cw_Ro_wholeState⟩) (pm_mzS ⟨okC_Ro_stepOpen, okW_Ro_stepOpen, cw_Ro_stepOpen⟩)) (pm_mzC (pm_mzS ⟨okC_Ro_onePiece, okW_Ro_onePiece, cw_Ro_onePiece⟩) (pm_mzC (pm_mzS ⟨okC_Jm_max, okW_Jm_max, cw_Jm_max⟩) (pm_mzS ⟨okC_Ro_reaches, okW_Ro_reaches, cw_Ro_reaches⟩)))) (pm_mzC (pm_mzC (pm_mzS ⟨okC_Ro_mostOf, okW_Ro_mostOf, cw_Ro_mostOf⟩) (pm_mzS ⟨okC_Ro_makePlan, okW_Ro_makePlan, cw_Ro_makePlan⟩)) (pm_mzC (pm_mzS ⟨okC_Ta_close, okW_Ta_close, cw_Ta_close⟩) (pm_mzC (pm_mzS ⟨okC_Ph_pattern, okW_Ph_pattern, cw_Ph_pattern⟩) (pm_mzS ⟨okC_Ro_tell, okW_Ro_tell, cw_Ro_tell⟩)))))) (pm_mzC (pm_mzC (pm_mzC (pm_mzC (pm_mzS ⟨okC_Ro_lostOf, okW_Ro_lostOf, cw_Ro_lostOf⟩) (pm_mzS ⟨okC_Ph_fold, okW_Ph_fold, cw_Ph_fold⟩)) (pm_mzC (pm_mzS ⟨okC_Fo_takeText, okW_Fo_takeText, cw_Fo_takeText⟩) (pm_mzS ⟨okC_Fo_readSide, okW_Fo_readSide, cw_Fo_readSide⟩))) (pm_mzC (pm_mzC (pm_mzS ⟨okC_Fo_halvings, okW_Fo_halvings, cw_Fo_halvings⟩) (pm_mzS ⟨okC_Fo_readFolds, okW_Fo_readFolds, cw_Fo_readFolds⟩)) (pm_mzC (pm_mzS ⟨okC_Fo_isDown, okW_Fo_isDown, cw_Fo_isDown⟩) (pm_mzC (pm_mzS ⟨okC_Ta_place, okW_Ta_place, cw_Ta_place⟩) (pm_mzS ⟨okC_Ph_book, okW_Ph_book, cw_Ph_book⟩))))) (pm_mzC (pm_mzC (pm_mzC (pm_mzS ⟨okC_Fo_bind, okW_Fo_bind, cw_Fo_bind⟩) (pm_mzS ⟨okC_Ph_page, okW_Ph_page, cw_Ph_page⟩)) (pm_mzC (pm_mzS ⟨okC_Fo_hasPanel, okW_Fo_hasPanel, cw_Fo_hasPanel⟩) (pm_mzC (pm_mzS ⟨okC_Fo_hasSide, okW_Fo_hasSide, cw_Fo_hasSide⟩) (pm_mzS ⟨okC_Fo_isPanel, okW_Fo_isPanel, cw_Fo_isPanel⟩)))) (pm_mzC (pm_mzC (pm_mzS ⟨okC_Fo_pageOn, okW_Fo_pageOn, cw_Fo_pageOn⟩) (pm_mzS ⟨okC_Fo_placeOf, okW_Fo_placeOf, cw_Fo_placeOf⟩)) (pm_mzC (pm_mzS ⟨okC_Fo_isUpsideDown, okW_Fo_isUpsideDown, cw_Fo_isUpsideDown⟩) (pm_mzC (pm_mzS ⟨okC_Ph_where, okW_Ph_where, cw_Ph_where⟩) (pm_mzS ⟨okC_Fo_find, okW_Fo_find, cw_Fo_find⟩)))))))) (pm_mzC (pm_mzC (pm_mzC (pm_mzC (pm_mzC (pm_mzC (pm_mzS ⟨okC_Fo_tellPanel, okW_Fo_tellPanel, cw_Fo_tellPanel⟩) (pm_mzS ⟨okC_Ph_draw, okW_Ph_draw, cw_Ph_draw⟩)) (pm_mzC (pm_mzS ⟨okC_Pl_takeText, okW_Pl_takeText, cw_Pl_takeText⟩) (pm_mzS ⟨okC_Pl_readLine, okW_Pl_readLine, cw_Pl_readLine⟩))) (pm_mzC (pm_mzC (pm_mzS ⟨okC_Ta_readEither, okW_Ta_readEither, cw_Ta_readEither⟩) (pm_mzS ⟨okC_Pl_readStroke, okW_Pl_readStroke, cw_Pl_readStroke⟩)) (pm_mzC (pm_mzS ⟨okC_Pl_paint, okW_Pl_paint, cw_Pl_paint⟩) (pm_mzC (pm_mzS ⟨okC_Pl_readBox, okW_Pl_readBox, cw_Pl_readBox⟩) (pm_mzS ⟨okC_Ph_point, okW_Ph_point, cw_Ph_point⟩))))) (pm_mzC (pm_mzC (pm_mzC (pm_mzS ⟨okC_Pl_pointAt, okW_Pl_pointAt, cw_Pl_pointAt⟩) (pm_mzS ⟨okC_Fo_columns, okW_Fo_columns, cw_Fo_columns⟩)) (pm_mzC (pm_mzS ⟨okC_Fo_rows, okW_Fo_rows, cw_Fo_rows⟩) (pm_mzS ⟨okC_Pl_panelColumn, okW_Pl_panelColumn, cw_Pl_panelColumn⟩))) (pm_mzC (pm_mzC (pm_mzS ⟨okC_Pl_inked, okW_Pl_inked, cw_Pl_inked⟩) (pm_mzS ⟨okC_Ph_mount, okW_Ph_mount, cw_Ph_mount⟩)) (pm_mzC (pm_mzS ⟨okC_Pr_clear, okW_Pr_clear, cw_Pr_clear⟩) (pm_mzC (pm_mzS ⟨okC_Pl_coverageOf, okW_Pl_coverageOf, cw_Pl_coverageOf⟩) (pm_mzS ⟨okC_Pl_inkedOf, okW_Pl_inkedOf, cw_Pl_inkedOf⟩)))))) (pm_mzC (pm_mzC (pm_mzC (pm_mzC (pm_mzS ⟨okC_Pr_cover, okW_Pr_cover, cw_Pr_cover⟩) (pm_mzS ⟨okC_Pr_cleanFilms, okW_Pr_cleanFilms, cw_Pr_cleanFilms⟩)) (pm_mzC (pm_mzS ⟨okC_Ph_key, okW_Ph_key, cw_Ph_key⟩) (pm_mzS ⟨okC_Pr_turnKey, okW_Pr_turnKey, cw_Pr_turnKey⟩))) (pm_mzC (pm_mzC (pm_mzS ⟨okC_Ph_aim, okW_Ph_aim, cw_Ph_aim⟩) (pm_mzS ⟨okC_Pr_aimAt, okW_Pr_aimAt, cw_Pr_aimAt⟩)) (pm_mzC (pm_mzS ⟨okC_Ph_settled, okW_Ph_settled, cw_Ph_settled⟩) (pm_mzC (pm_mzS ⟨okC_Pr_settledKey, okW_Pr_settledKey, cw_Pr_settledKey⟩) (pm_mzS ⟨okC_Pr_trialDensity, okW_Pr_trialDensity, cw_Pr_trialDensity⟩))))) (pm_mzC (pm_mzC (pm_mzC (pm_mzS ⟨okC_Pr_ink, okW_Pr_ink, cw_Pr_ink⟩) (pm_mzS ⟨okC_Jm_floorDiv_II, okW_Jm_floorDiv_II, cw_Jm_floorDiv_II⟩)) (pm_mzC (pm_mzS ⟨okC_Ph_print, okW_Ph_print, cw_Ph_print⟩) (pm_mzC (pm_mzS ⟨okC_Pr_printMany, okW_Pr_printMany, cw_Pr_printMany⟩) (pm_mzS ⟨okC_Pr_printSheet, okW_Pr_printSheet, cw_Pr_printSheet⟩)))) (pm_mzC (pm_mzC (pm_mzS ⟨okC_Jm_abs_I, okW_Jm_abs_I, cw_Jm_abs_I⟩) (pm_mzS ⟨okC_Pr_noteGood, okW_Pr_noteGood, cw_Pr_noteGood⟩)) (pm_mzC (pm_mzS ⟨okC_Ph_good, okW_Ph_good, cw_Ph_good⟩) (pm_mzC (pm_mzS ⟨okC_Pr_printTill, okW_Pr_printTill, cw_Pr_printTill⟩) (pm_mzS ⟨okC_Ph_zone, okW_Ph_zone, cw_Ph_zone⟩))))))) (pm_mzC (pm_mzC (pm_mzC (pm_mzC (pm_mzC (pm_mzS ⟨okC_Pr_tellZone, okW_Pr_tellZone, cw_Pr_tellZone⟩) (pm_mzS ⟨okC_Ph_number, okW_Ph_number, cw_Ph_number⟩)) (pm_mzC (pm_mzS ⟨okC_Pr_numberOf, okW_Pr_numberOf, cw_Pr_numberOf⟩) (pm_mzS ⟨okC_Ji_bitCount, okW_Ji_bitCount, cw_Ji_bitCount⟩))) (pm_mzC (pm_mzC (pm_mzS ⟨okC_Ph_sorts, okW_Ph_sorts, cw_Ph_sorts⟩) (pm_mzS ⟨okC_Ty_stockUp, okW_Ty_stockUp, cw_Ty_stockUp⟩)) (pm_mzC (pm_mzS ⟨okC_Ph_set, okW_Ph_set, cw_Ph_set⟩) (pm_mzC (pm_mzS ⟨okC_Ty_takeText, okW_Ty_takeText, cw_Ty_takeText⟩) (pm_mzS ⟨okC_Ty_readWords, okW_Ty_readWords, cw_Ty_readWords⟩))))) (pm_mzC (pm_mzC (pm_mzC (pm_mzS ⟨okC_Ty_measureWords, okW_Ty_measureWords, cw_Ty_measureWords⟩) (pm_mzS ⟨okC_Ty_enoughSorts, okW_Ty_enoughSorts, cw_Ty_enoughSorts⟩)) (pm_mzC (pm_mzS ⟨okC_Ty_wordsFit, okW_Ty_wordsFit, cw_Ty_wordsFit⟩) (pm_mzC (pm_mzS ⟨okC_Ty_breakLines, okW_Ty_breakLines, cw_Ty_breakLines⟩) (pm_mzS ⟨okC_Ty_layLine, okW_Ty_layLine, cw_Ty_layLine⟩)))) (pm_mzC (pm_mzC (pm_mzS ⟨okC_Tl_start, okW_Tl_start, cw_Tl_start⟩) (pm_mzS ⟨okC_Tl_addSpace, okW_Tl_addSpace, cw_Tl_addSpace⟩)) (pm_mzC (pm_mzS ⟨okC_Ty_layWord, okW_Ty_layWord, cw_Ty_layWord⟩) (pm_mzC (pm_mzS ⟨okC_Tl_addWord, okW_Tl_addWord, cw_Tl_addWord⟩) (pm_mzS ⟨okC_Tl_addLetter, okW_Tl_addLetter, cw_Tl_addLetter⟩)))))) (pm_mzC (pm_mzC (pm_mzC (pm_mzC (pm_mzS ⟨okC_Ph_distribute, okW_Ph_distribute, cw_Ph_distribute⟩) (pm_mzS ⟨okC_Ty_putBack, okW_Ty_putBack, cw_Ty_putBack⟩)) (pm_mzC (pm_mzS ⟨okC_Ty_stands, okW_Ty_stands, cw_Ty_stands⟩) (pm_mzS ⟨okC_Tl_length, okW_Tl_length, cw_Tl_length⟩))) (pm_mzC (pm_mzC (pm_mzS ⟨okC_Tl_letterAt, okW_Tl_letterAt, cw_Tl_letterAt⟩) (pm_mzS ⟨okC_Ph_line, okW_Ph_line, cw_Ph_line⟩)) (pm_mzC (pm_mzS ⟨okC_Ty_tellLine, okW_Ty_tellLine, cw_Ty_tellLine⟩) (pm_mzC (pm_mzS ⟨okC_Tl_tell, okW_Tl_tell, cw_Tl_tell⟩) (pm_mzS ⟨okC_Ph_strip, okW_Ph_strip, cw_Ph_strip⟩))))) (pm_mzC (pm_mzC (pm_mzC (pm_mzS ⟨okC_Ty_tellStrip, okW_Ty_tellStrip, cw_Ty_tellStrip⟩) (pm_mzS ⟨okC_Tl_backwards, okW_Tl_backwards, cw_Tl_backwards⟩)) (pm_mzC (pm_mzS ⟨okC_Ph_left, okW_Ph_left, cw_Ph_left⟩) (pm_mzC (pm_mzS ⟨okC_Ty_stockOf, okW_Ty_stockOf, cw_Ty_stockOf⟩) (pm_mzS ⟨okC_Ph_pile, okW_Ph_pile, cw_Ph_pile⟩)))) (pm_mzC (pm_mzC (pm_mzS ⟨okC_Pi_takeText, okW_Pi_takeText, cw_Pi_takeText⟩) (pm_mzS ⟨okC_Pi_readCut, okW_Pi_readCut, cw_Pi_readCut⟩)) (pm_mzC (pm_mzS ⟨okC_Pi_has, okW_Pi_has, cw_Pi_has⟩) (pm_mzC (pm_mzS ⟨okC_Pi_cutOff, okW_Pi_cutOff, cw_Pi_cutOff⟩) (pm_mzS ⟨okC_Ph_piece, okW_Ph_piece, cw_Ph_piece⟩))))))))) (pm_mzC (pm_mzC (pm_mzC (pm_mzC (pm_mzC (pm_mzC (pm_mzC (pm_mzS ⟨okC_Pi_tell, okW_Pi_tell, cw_Pi_tell⟩) (pm_mzS ⟨okC_Ph_on, okW_Ph_on, cw_Ph_on⟩)) (pm_mzC (pm_mzS ⟨okC_Pi_pieceAt, okW_Pi_pieceAt, cw_Pi_pieceAt⟩) (pm_mzS ⟨okC_Ph_gather, okW_Ph_gather, cw_Ph_gather⟩))) (pm_mzC (pm_mzC (pm_mzS ⟨okC_Fo_sheets, okW_Fo_sheets, cw_Fo_sheets⟩) (pm_mzS ⟨okC_Ph_letters, okW_Ph_letters, cw_Ph_letters⟩)) (pm_mzC (pm_mzS ⟨okC_Ma_takeText, okW_Ma_takeText, cw_Ma_takeText⟩) (pm_mzC (pm_mzS ⟨okC_Ma_readCode, okW_Ma_readCode, cw_Ma_readCode⟩) (pm_mzS ⟨okC_Ma_readName, okW_Ma_readName, cw_Ma_readName⟩))))) (pm_mzC (pm_mzC (pm_mzC (pm_mzS ⟨okC_Ma_newcomers, okW_Ma_newcomers, cw_Ma_newcomers⟩) (pm_mzS ⟨okC_Ma_isThere, okW_Ma_isThere, cw_Ma_isThere⟩)) (pm_mzC (pm_mzS ⟨okC_Ma_placeFor, okW_Ma_placeFor, cw_Ma_placeFor⟩) (pm_mzS ⟨okC_Ma_isAhead, okW_Ma_isAhead, cw_Ma_isAhead⟩))) (pm_mzC (pm_mzC (pm_mzS ⟨okC_Ma_has, okW_Ma_has, cw_Ma_has⟩) (pm_mzS ⟨okC_Ma_standsAhead, okW_Ma_standsAhead, cw_Ma_standsAhead⟩)) (pm_mzC (pm_mzS ⟨okC_Ma_insert, okW_Ma_insert, cw_Ma_insert⟩) (pm_mzC (pm_mzS ⟨okC_Bu_outdate, okW_Bu_outdate, cw_Bu_outdate⟩) (pm_mzS ⟨okC_Ph_bundles, okW_Ph_bundles, cw_Ph_bundles⟩)))))) (pm_mzC (pm_mzC (pm_mzC (pm_mzC (pm_mzS ⟨okC_Bu_limit, okW_Bu_limit, cw_Bu_limit⟩) (pm_mzS ⟨okC_Bu_howMany, okW_Bu_howMany, cw_Bu_howMany⟩)) (pm_mzC (pm_mzS ⟨okC_Bu_refresh, okW_Bu_refresh, cw_Bu_refresh⟩) (pm_mzS ⟨okC_Bu_bundleKind, okW_Bu_bundleKind, cw_Bu_bundleKind⟩))) (pm_mzC (pm_mzC (pm_mzS ⟨okC_Ma_howMany, okW_Ma_howMany, cw_Ma_howMany⟩) (pm_mzS ⟨okC_Bu_groupOf, okW_Bu_groupOf, cw_Bu_groupOf⟩)) (pm_mzC (pm_mzS ⟨okC_Ma_codeOf, okW_Ma_codeOf, cw_Ma_codeOf⟩) (pm_mzC (pm_mzS ⟨okC_Bu_bundleGroup, okW_Bu_bundleGroup, cw_Bu_bundleGroup⟩) (pm_mzS ⟨okC_Bu_makeBundle, okW_Bu_makeBundle, cw_Bu_makeBundle⟩))))) (pm_mzC (pm_mzC (pm_mzC (pm_mzS ⟨okC_Ph_letter, okW_Ph_letter, cw_Ph_letter⟩) (pm_mzS ⟨okC_Bu_bundleOf, okW_Bu_bundleOf, cw_Bu_bundleOf⟩)) (pm_mzC (pm_mzS ⟨okC_Ma_tell, okW_Ma_tell, cw_Ma_tell⟩) (pm_mzC (pm_mzS ⟨okC_Ma_lengthOf, okW_Ma_lengthOf, cw_Ma_lengthOf⟩) (pm_mzS ⟨okC_Ma_byteOf, okW_Ma_byteOf, cw_Ma_byteOf⟩)))) (pm_mzC (pm_mzC (pm_mzS ⟨okC_Ma_cameAheadOf, okW_Ma_cameAheadOf, cw_Ma_cameAheadOf⟩) (pm_mzS ⟨okC_Ph_bundle, okW_Ph_bundle, cw_Ph_bundle⟩)) (pm_mzC (pm_mzS ⟨okC_Bu_tell, okW_Bu_tell, cw_Bu_tell⟩) (pm_mzC (pm_mzS ⟨okC_Ph_strike, okW_Ph_strike, cw_Ph_strike⟩) (pm_mzS ⟨okC_Ma_remove, okW_Ma_remove, cw_Ma_remove⟩))))))) (pm_mzC (pm_mzC (pm_mzC (pm_mzC (pm_mzC (pm_mzS ⟨okC_Ph_job, okW_Ph_job, cw_Ph_job⟩) (pm_mzS ⟨okC_Wo_add, okW_Wo_add, cw_Wo_add⟩)) (pm_mzC (pm_mzS ⟨okC_Ph_times, okW_Ph_times, cw_Ph_times⟩) (pm_mzS ⟨okC_Wo_allow, okW_Wo_allow, cw_Wo_allow⟩))) (pm_mzC (pm_mzC (pm_mzS ⟨okC_Ph_drop, okW_Ph_drop, cw_Ph_drop⟩) (pm_mzS ⟨okC_Wo_remove, okW_Wo_remove, cw_Wo_remove⟩)) (pm_mzC (pm_mzS ⟨okC_Wo_has, okW_Wo_has, cw_Wo_has⟩) (pm_mzC (pm_mzS ⟨okC_Ph_order, okW_Ph_order, cw_Ph_order⟩) (pm_mzS ⟨okC_Wo_jobAt, okW_Wo_jobAt, cw_Wo_jobAt⟩))))) (pm_mzC (pm_mzC (pm_mzC (pm_mzS ⟨okC_Wo_refresh, okW_Wo_refresh, cw_Wo_refresh⟩) (pm_mzS ⟨okC_Wo_search, okW_Wo_search, cw_Wo_search⟩)) (pm_mzC (pm_mzS ⟨okC_Wo_keepTrial, okW_Wo_keepTrial, cw_Wo_keepTrial⟩) (pm_mzC (pm_mzS ⟨okC_Wo_changeAhead, okW_Wo_changeAhead, cw_Wo_changeAhead⟩) (pm_mzS ⟨okC_Wo_isChange, okW_Wo_isChange, cw_Wo_isChange⟩)))) (pm_mzC (pm_mzC (pm_mzS ⟨okC_Wo_writeSchedule, okW_Wo_writeSchedule, cw_Wo_writeSchedule⟩) (pm_mzS ⟨okC_Ph_when, okW_Ph_when, cw_Ph_when⟩)) (pm_mzC (pm_mzS ⟨okC_Wo_tell, okW_Wo_tell, cw_Wo_tell⟩) (pm_mzC (pm_mzS ⟨okC_Ph_count, okW_Ph_count, cw_Ph_count⟩) (pm_mzS ⟨okC_Wo_lateInAll, okW_Wo_lateInAll, cw_Wo_lateInAll⟩)))))) (pm_mzC (pm_mzC (pm_mzC (pm_mzC (pm_mzS ⟨okC_Wo_lastEnd, okW_Wo_lastEnd, cw_Wo_lastEnd⟩) (pm_mzS ⟨okC_Wo_changesOfColour, okW_Wo_changesOfColour, cw_Wo_changesOfColour⟩)) (pm_mzC (pm_mzS ⟨okC_Ro_inPlan, okW_Ro_inPlan, cw_Ro_inPlan⟩) (pm_mzS ⟨okC_Ro_lostInAll, okW_Ro_lostInAll, cw_Ro_lostInAll⟩))) (pm_mzC (pm_mzC (pm_mzS ⟨okC_Pr_sheetsPrinted, okW_Pr_sheetsPrinted, cw_Pr_sheetsPrinted⟩) (pm_mzS ⟨okC_Pr_sheetsGood, okW_Pr_sheetsGood, cw_Pr_sheetsGood⟩)) (pm_mzC (pm_mzS ⟨okC_Ty_linesStanding, okW_Ty_linesStanding, cw_Ty_linesStanding⟩) (pm_mzC (pm_mzS ⟨okC_Pi_howMany, okW_Pi_howMany, cw_Pi_howMany⟩) (pm_mzS ⟨okC_Wo_howMany, okW_Wo_howMany, cw_Wo_howMany⟩))))) (pm_mzC (pm_mzC (pm_mzC (pm_mzS ⟨okC_Mo_init, okW_Mo_init, cw_Mo_init⟩) (pm_mzS ⟨okC_Mo_turned, okW_Mo_turned, cw_Mo_turned⟩)) (pm_mzC (pm_mzS ⟨okC_Mo_feed, okW_Mo_feed, cw_Mo_feed⟩) (pm_mzC (pm_mzS ⟨okC_Mo_four, okW_Mo_four, cw_Mo_four⟩) (pm_mzS ⟨okC_Mo_end, okW_Mo_end, cw_Mo_end⟩)))) (pm_mzC (pm_mzC (pm_mzS ⟨okC_Mo_cut, okW_Mo_cut, cw_Mo_cut⟩) (pm_mzS ⟨okC_Mo_take, okW_Mo_take, cw_Mo_take⟩)) (pm_mzC (pm_mzS ⟨okC_Mo_isWord, okW_Mo_isWord, cw_Mo_isWord⟩) (pm_mzC (pm_mzS ⟨okC_Mo_wordEnd, okW_Mo_wordEnd, cw_Mo_wordEnd⟩) (pm_mzS ⟨okC_Mo_isSmall, okW_Mo_isSmall, cw_Mo_isSmall⟩)))))))) (pm_mzC (pm_mzC (pm_mzC (pm_mzC (pm_mzC (pm_mzC (pm_mzS ⟨okC_Mo_isDigit, okW_Mo_isDigit, cw_Mo_isDigit⟩) (pm_mzS ⟨okC_Mo_fail, okW_Mo_fail, cw_Mo_fail⟩)) (pm_mzC (pm_mzS ⟨okC_Mo_behind, okW_Mo_behind, cw_Mo_behind⟩) (pm_mzS ⟨okC_Mo_need, okW_Mo_need, cw_Mo_need⟩))) (pm_mzC (pm_mzC (pm_mzS ⟨okC_Mo_bad, okW_Mo_bad, cw_Mo_bad⟩) (pm_mzS ⟨okC_Mo_here, okW_Mo_here, cw_Mo_here⟩)) (pm_mzC (pm_mzS ⟨okC_Mo_told, okW_Mo_told, cw_Mo_told⟩) (pm_mzC (pm_mzS ⟨okC_Mo_is, okW_Mo_is, cw_Mo_is⟩) (pm_mzS ⟨okC_Mo_planned, okW_Mo_planned, cw_Mo_planned⟩))))) (pm_mzC (pm_mzC (pm_mzC (pm_mzS ⟨okC_Mo_isPattern, okW_Mo_isPattern, cw_Mo_isPattern⟩) (pm_mzS ⟨okC_Mo_digit, okW_Mo_digit, cw_Mo_digit⟩)) (pm_mzC (pm_mzS ⟨okC_Mo_isWithin, okW_Mo_isWithin, cw_Mo_isWithin⟩) (pm_mzC (pm_mzS ⟨okC_Mo_pattern, okW_Mo_pattern, cw_Mo_pattern⟩) (pm_mzS ⟨okC_Mo_waste, okW_Mo_waste, cw_Mo_waste⟩)))) (pm_mzC (pm_mzC (pm_mzS ⟨okC_Mo_fold, okW_Mo_fold, cw_Mo_fold⟩) (pm_mzS ⟨okC_Mo_power, okW_Mo_power, cw_Mo_power⟩)) (pm_mzC (pm_mzS ⟨okC_Mo_halves, okW_Mo_halves, cw_Mo_halves⟩) (pm_mzC (pm_mzS ⟨okC_Mo_book, okW_Mo_book, cw_Mo_book⟩) (pm_mzS ⟨okC_Mo_page, okW_Mo_page, cw_Mo_page⟩)))))) (pm_mzC (pm_mzC (pm_mzC (pm_mzC (pm_mzS ⟨okC_Mo_isPanel, okW_Mo_isPanel, cw_Mo_isPanel⟩) (pm_mzS ⟨okC_Mo_pageOf, okW_Mo_pageOf, cw_Mo_pageOf⟩)) (pm_mzC (pm_mzS ⟨okC_Mo_place, okW_Mo_place, cw_Mo_place⟩) (pm_mzS ⟨okC_Mo_where, okW_Mo_where, cw_Mo_where⟩))) (pm_mzC (pm_mzC (pm_mzS ⟨okC_Mo_draw, okW_Mo_draw, cw_Mo_draw⟩) (pm_mzS ⟨okC_Mo_fill, okW_Mo_fill, cw_Mo_fill⟩)) (pm_mzC (pm_mzS ⟨okC_Mo_point, okW_Mo_point, cw_Mo_point⟩) (pm_mzC (pm_mzS ⟨okC_Mo_isSide, okW_Mo_isSide, cw_Mo_isSide⟩) (pm_mzS ⟨okC_Mo_pointAt, okW_Mo_pointAt, cw_Mo_pointAt⟩))))) (pm_mzC (pm_mzC (pm_mzC (pm_mzS ⟨okC_Mo_mount, okW_Mo_mount, cw_Mo_mount⟩) (pm_mzS ⟨okC_Mo_key, okW_Mo_key, cw_Mo_key⟩)) (pm_mzC (pm_mzS ⟨okC_Mo_aim, okW_Mo_aim, cw_Mo_aim⟩) (pm_mzC (pm_mzS ⟨okC_Mo_settled, okW_Mo_settled, cw_Mo_settled⟩) (pm_mzS ⟨okC_Mo_isZone, okW_Mo_isZone, cw_Mo_isZone⟩)))) (pm_mzC (pm_mzC (pm_mzS ⟨okC_Mo_inked, okW_Mo_inked, cw_Mo_inked⟩) (pm_mzS ⟨okC_Jm_floorDiv_JJ, okW_Jm_floorDiv_JJ, cw_Jm_floorDiv_JJ⟩)) (pm_mzC (pm_mzS ⟨okC_Mo_print, okW_Mo_print, cw_Mo_print⟩) (pm_mzC (pm_mzS ⟨okC_Mo_sheet, okW_Mo_sheet, cw_Mo_sheet⟩) (pm_mzS ⟨okC_Mo_shown, okW_Mo_shown, cw_Mo_shown⟩))))))) (pm_mzC (pm_mzC (pm_mzC (pm_mzC (pm_mzC (pm_mzS ⟨okC_Jm_min_JJ, okW_Jm_min_JJ, cw_Jm_min_JJ⟩) (pm_mzS ⟨okC_Jm_abs_J, okW_Jm_abs_J, cw_Jm_abs_J⟩)) (pm_mzC (pm_mzS ⟨okC_Mo_good, okW_Mo_good, cw_Mo_good⟩) (pm_mzS ⟨okC_Mo_zone, okW_Mo_zone, cw_Mo_zone⟩))) (pm_mzC (pm_mzC (pm_mzS ⟨okC_Mo_number, okW_Mo_number, cw_Mo_number⟩) (pm_mzS ⟨okC_Mo_sorts, okW_Mo_sorts, cw_Mo_sorts⟩)) (pm_mzC (pm_mzS ⟨okC_Mo_set, okW_Mo_set, cw_Mo_set⟩) (pm_mzC (pm_mzS ⟨okC_Mo_laid, okW_Mo_laid, cw_Mo_laid⟩) (pm_mzS ⟨okC_Mo_wordWidth, okW_Mo_wordWidth, cw_Mo_wordWidth⟩))))) (pm_mzC (pm_mzC (pm_mzC (pm_mzS ⟨okC_Mo_lineFrom, okW_Mo_lineFrom, cw_Mo_lineFrom⟩) (pm_mzS ⟨okC_Mo_distribute, okW_Mo_distribute, cw_Mo_distribute⟩)) (pm_mzC (pm_mzS ⟨okC_Mo_isLine, okW_Mo_isLine, cw_Mo_isLine⟩) (pm_mzC (pm_mzS ⟨okC_Mo_line, okW_Mo_line, cw_Mo_line⟩) (pm_mzS ⟨okC_Mo_strip, okW_Mo_strip, cw_Mo_strip⟩)))) (pm_mzC (pm_mzC (pm_mzS ⟨okC_Mo_left, okW_Mo_left, cw_Mo_left⟩) (pm_mzS ⟨okC_Mo_pile, okW_Mo_pile, cw_Mo_pile⟩)) (pm_mzC (pm_mzS ⟨okC_Mo_piece, okW_Mo_piece, cw_Mo_piece⟩) (pm_mzC (pm_mzS ⟨okC_Mo_on, okW_Mo_on, cw_Mo_on⟩) (pm_mzS ⟨okC_Mo_gather, okW_Mo_gather, cw_Mo_gather⟩)))))) (pm_mzC (pm_mzC (pm_mzC (pm_mzC (pm_mzS ⟨okC_Mo_letters, okW_Mo_letters, cw_Mo_letters⟩) (pm_mzS ⟨okC_Mo_nameHere, okW_Mo_nameHere, cw_Mo_nameHere⟩)) (pm_mzC (pm_mzS ⟨okC_Mo_bundled, okW_Mo_bundled, cw_Mo_bundled⟩) (pm_mzS ⟨okC_Mo_isAhead, okW_Mo_isAhead, cw_Mo_isAhead⟩))) (pm_mzC (pm_mzC (pm_mzS ⟨okC_Mo_stage, okW_Mo_stage, cw_Mo_stage⟩) (pm_mzS ⟨okC_Mo_bundles, okW_Mo_bundles, cw_Mo_bundles⟩)) (pm_mzC (pm_mzS ⟨okC_Mo_letter, okW_Mo_letter, cw_Mo_letter⟩) (pm_mzC (pm_mzS ⟨okC_Mo_nameByte, okW_Mo_nameByte, cw_Mo_nameByte⟩) (pm_mzS ⟨okC_Mo_bundle, okW_Mo_bundle, cw_Mo_bundle⟩))))) (pm_mzC (pm_mzC (pm_mzC (pm_mzS ⟨okC_Mo_strike, okW_Mo_strike, cw_Mo_strike⟩) (pm_mzS ⟨okC_Mo_job, okW_Mo_job, cw_Mo_job⟩)) (pm_mzC (pm_mzS ⟨okC_Mo_ordered, okW_Mo_ordered, cw_Mo_ordered⟩) (pm_mzC (pm_mzS ⟨okC_Mo_times, okW_Mo_times, cw_Mo_times⟩) (pm_mzS ⟨okC_Mo_drop, okW_Mo_drop, cw_Mo_drop⟩)))) (pm_mzC (pm_mzC (pm_mzS ⟨okC_Mo_order, okW_Mo_order, cw_Mo_order⟩) (pm_mzS ⟨okC_Mo_findOrder, okW_Mo_findOrder, cw_Mo_findOrder⟩)) (pm_mzC (pm_mzS ⟨okC_Mo_runs, okW_Mo_runs, cw_Mo_runs⟩) (pm_mzC (pm_mzS ⟨okC_Mo_when, okW_Mo_when, cw_Mo_when⟩) (pm_mzS ⟨okC_Mo_count, okW_Mo_count, cw_Mo_count⟩))))))))))
