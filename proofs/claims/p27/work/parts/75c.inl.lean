/-! ===== the law's words are the tables' ===== -/
set_option maxRecDepth 20000 in
theorem wsL_law_r13_in : ∀ w ∈ wsL_law_r13, w ∈ lw_tbl := fun w h => (goodIn_p wsL_law_r13 [395, 400, 404, 408, 412, 417] (by decide +kernel) (by decide +kernel) w h).1
set_option maxRecDepth 20000 in
theorem wsL_law_r14_in : ∀ w ∈ wsL_law_r14, w ∈ lw_tbl := fun w h => (goodIn_p wsL_law_r14 [420, 423, 427, 432, 436, 440] (by decide +kernel) (by decide +kernel) w h).1
set_option maxRecDepth 100000 in
theorem wsL_law_r15_w0 : Cond.code yL_shown cL_shown 1 (some .int) ∈ lw_tbl := List.mem_of_getElem? (i := 443) rfl
set_option maxRecDepth 100000 in
theorem wsL_law_r15_w1 : Cond.methodLink RL 50 yX7_queued ∈ lw_tbl := by decide +kernel
set_option maxRecDepth 100000 in
theorem wsL_law_r15_w2 : Cond.instanceMethod yX7_queued ∈ lw_tbl := by decide +kernel
set_option maxRecDepth 100000 in
theorem wsL_law_r15_w3 : Cond.selects RX7 yX7_queued yX7_queued ∈ lw_tbl := by decide +kernel
set_option maxRecDepth 100000 in
theorem wsL_law_r15_w4 : Cond.code yX7_queued cX7_queued 5 (some .int) ∈ lw_tbl := List.mem_of_getElem? (i := 447) rfl
set_option maxRecDepth 100000 in
theorem wsL_law_r15_w5 : Cond.methodLink RX7 155 yX5_hasQueue ∈ lw_tbl := by decide +kernel
set_option maxRecDepth 100000 in
theorem wsL_law_r15_w6 : Cond.instanceMethod yX5_hasQueue ∈ lw_tbl := by decide +kernel
set_option maxRecDepth 100000 in
theorem wsL_law_r15_w7 : Cond.selects RX5 yX5_hasQueue yX5_hasQueue ∈ lw_tbl := by decide +kernel
set_option maxRecDepth 100000 in
theorem wsL_law_r15_w8 : Cond.code yX5_hasQueue cX5_hasQueue 3 (some .boolean) ∈ lw_tbl := List.mem_of_getElem? (i := 451) rfl
set_option maxRecDepth 100000 in
theorem wsL_law_r15_w9 : Cond.methodLink RX7 158 yX5_queueOf ∈ lw_tbl := by decide +kernel
set_option maxRecDepth 100000 in
theorem wsL_law_r15_w10 : Cond.instanceMethod yX5_queueOf ∈ lw_tbl := by decide +kernel
set_option maxRecDepth 100000 in
theorem wsL_law_r15_w11 : Cond.selects RX5 yX5_queueOf yX5_queueOf ∈ lw_tbl := by decide +kernel
set_option maxRecDepth 100000 in
theorem wsL_law_r15_w12 : Cond.code yX5_queueOf cX5_queueOf 3 (some (.object "ProxyVersions$Line")) ∈ lw_tbl := List.mem_of_getElem? (i := 455) rfl
set_option maxRecDepth 100000 in
theorem wsL_law_r15_w13 : Cond.methodLink RL 53 yX7_upToDate ∈ lw_tbl := by decide +kernel
set_option maxRecDepth 100000 in
theorem wsL_law_r15_w14 : Cond.instanceMethod yX7_upToDate ∈ lw_tbl := by decide +kernel
set_option maxRecDepth 100000 in
theorem wsL_law_r15_w15 : Cond.selects RX7 yX7_upToDate yX7_upToDate ∈ lw_tbl := by decide +kernel
set_option maxRecDepth 100000 in
theorem wsL_law_r15_w16 : Cond.code yX7_upToDate cX7_upToDate 4 (some .int) ∈ lw_tbl := List.mem_of_getElem? (i := 459) rfl
set_option maxRecDepth 100000 in
theorem wsL_law_r15_w17 : Cond.methodLink RL 116 yL_acts ∈ lw_tbl := by decide +kernel
set_option maxRecDepth 100000 in
theorem wsL_law_r15_w18 : Cond.static yL_acts ∈ lw_tbl := by decide +kernel
set_option maxRecDepth 100000 in
theorem wsL_law_r15_w19 : Cond.code yL_acts cL_acts 24 (some .boolean) ∈ lw_tbl := List.mem_of_getElem? (i := 462) rfl
set_option maxRecDepth 100000 in
theorem wsL_law_r15_w20 : Cond.methodLink RL 64 yX7_setLimits ∈ lw_tbl := by decide +kernel
set_option maxRecDepth 100000 in
theorem wsL_law_r15_w21 : Cond.instanceMethod yX7_setLimits ∈ lw_tbl := by decide +kernel
set_option maxRecDepth 100000 in
theorem wsL_law_r15_w22 : Cond.selects RX7 yX7_setLimits yX7_setLimits ∈ lw_tbl := by decide +kernel
set_option maxRecDepth 100000 in
theorem wsL_law_r15_w23 : Cond.code yX7_setLimits cX7_setLimits 3 (some .int) ∈ lw_tbl := List.mem_of_getElem? (i := 466) rfl
theorem wsL_law_r15_in : ∀ w ∈ wsL_law_r15, w ∈ lw_tbl := List.forall_mem_cons.mpr ⟨wsL_law_r15_w0, List.forall_mem_cons.mpr ⟨wsL_law_r15_w1, List.forall_mem_cons.mpr ⟨wsL_law_r15_w2, List.forall_mem_cons.mpr ⟨wsL_law_r15_w3, List.forall_mem_cons.mpr ⟨wsL_law_r15_w4, List.forall_mem_cons.mpr ⟨wsL_law_r15_w5, List.forall_mem_cons.mpr ⟨wsL_law_r15_w6, List.forall_mem_cons.mpr ⟨wsL_law_r15_w7, List.forall_mem_cons.mpr ⟨wsL_law_r15_w8, List.forall_mem_cons.mpr ⟨wsL_law_r15_w9, List.forall_mem_cons.mpr ⟨wsL_law_r15_w10, List.forall_mem_cons.mpr ⟨wsL_law_r15_w11, List.forall_mem_cons.mpr ⟨wsL_law_r15_w12, List.forall_mem_cons.mpr ⟨wsL_law_r15_w13, List.forall_mem_cons.mpr ⟨wsL_law_r15_w14, List.forall_mem_cons.mpr ⟨wsL_law_r15_w15, List.forall_mem_cons.mpr ⟨wsL_law_r15_w16, List.forall_mem_cons.mpr ⟨wsL_law_r15_w17, List.forall_mem_cons.mpr ⟨wsL_law_r15_w18, List.forall_mem_cons.mpr ⟨wsL_law_r15_w19, List.forall_mem_cons.mpr ⟨wsL_law_r15_w20, List.forall_mem_cons.mpr ⟨wsL_law_r15_w21, List.forall_mem_cons.mpr ⟨wsL_law_r15_w22, List.forall_mem_cons.mpr ⟨wsL_law_r15_w23, fun _ h => absurd h List.not_mem_nil⟩⟩⟩⟩⟩⟩⟩⟩⟩⟩⟩⟩⟩⟩⟩⟩⟩⟩⟩⟩⟩⟩⟩⟩
set_option maxRecDepth 20000 in
theorem wsL_law_r16_in : ∀ w ∈ wsL_law_r16, w ∈ lw_tbl := fun w h => (goodIn_p wsL_law_r16 [470, 473, 476, 479, 482, 486, 490] (by decide +kernel) (by decide +kernel) w h).1
set_option maxRecDepth 20000 in
theorem wsL_law_r17_in : ∀ w ∈ wsL_law_r17, w ∈ lw_tbl := fun w h => (goodIn_p wsL_law_r17 [496, 500, 505, 508, 511, 516] (by decide +kernel) (by decide +kernel) w h).1
set_option maxRecDepth 20000 in
theorem wsL_law_r18_in : ∀ w ∈ wsL_law_r18, w ∈ lw_tbl := fun w h => (goodIn_p wsL_law_r18 [519, 523, 527, 532, 537] (by decide +kernel) (by decide +kernel) w h).1
