/-! ===== what is answered is a line ===== -/
theorem ln_j26 {w : Wd} {o : Nat} (h : m_X5_contentsOf_j26 w = some o) : isLn o := by
  have e : 48 = o := f_s h
  rw [← e]; exact ln48
theorem ln_X5_contentsOf {x1 : Int32} {w : Wd} {o : Nat} (h : m_X5_contentsOf x1 w = some o) : isLn o := by
  unfold m_X5_contentsOf at h
  obtain ⟨o1, h1, h⟩ := f_bd h
  by_cases c : o1 = 0
  · exact ln_j26 (f_t c h)
  replace h := f_f c h
  by_cases c2 : (nI 8) ≤ x1
  · exact ln_j26 (f_t c2 h)
  replace h := f_f c2 h
  obtain ⟨c3, h⟩ := f_c h
  rw [← f_s h]
  exact ln56 c3
theorem ln_j14 {w : Wd} {o : Nat} (h : m_X5_queueOf_j14 w = some o) : isLn o := by
  have e : 48 = o := f_s h
  rw [← e]; exact ln48
theorem ln_X5_queueOf {x1 x2 : Int32} {w : Wd} {o : Nat} (h : m_X5_queueOf x1 x2 w = some o) : isLn o := by
  unfold m_X5_queueOf at h
  obtain ⟨o1, h1, h⟩ := f_bd h
  by_cases c : o1 = 0
  · exact ln_j14 (f_t c h)
  replace h := f_f c h
  by_cases c2 : x1 < nI 8
  · replace h := f_t c2 h
    by_cases c4 : ¬ x2 = 0
    · replace h := f_t c4 h
      obtain ⟨c3, h⟩ := f_c h
      rw [← f_s h]
      exact ln58 c3
    · replace h := f_f c4 h
      obtain ⟨c3, h⟩ := f_c h
      rw [← f_s h]
      exact ln57 c3
  · exact ln_j14 (f_f c2 h)
theorem f_p1 {α β : Type} {a : α} {b : β} {o : α × β} (h : some (a, b) = some o) : a = o.1 := by rw [← f_s h]
theorem f_p2 {α β : Type} {a : α} {b : β} {o : α × β} (h : some (a, b) = some o) : b = o.2 := by rw [← f_s h]
