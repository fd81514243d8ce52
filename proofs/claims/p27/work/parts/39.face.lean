/-! ===== the whole object, and its calls ===== -/
/-- the state, what is saved (the oldest first), the text -/
abbrev ST : Type := TT × List TT × List Nat
def FC (S : ST) (w : Wd) : Prop := RepC 0 S.1 w ∧ InvQ S.1 ∧ HistC S.2.1 w ∧ RLn (w 482 1) (w 483) S.2.2 ∧ S.2.2.length ≤ 100 ∧ ∀ x ∈ S.2.2, x ≤ 255
def closeS (S : ST) (r : Int32 × TT) : Int32 × ST := (r.1, r.2, (if r.1 < 0 then S.2.1 else push S.2.1 S.1), S.2.2)
def o_add (S : ST) (x : Int32) : Int32 × ST := closeS S (sp_addProxy S.1 (dn x))
def o_home (S : ST) (x y : Int32) : Int32 × ST := closeS S (sp_setHome S.1 (dn x) (dn y))
def o_lim (S : ST) (x y : Int32) : Int32 × ST := closeS S (sp_setLimits S.1 (dn x) (dn y))
def o_write (S : ST) (x : Int32) : Int32 × ST := closeS S (sp_write S.1 (dn x))
def o_deliver (S : ST) (x y z : Int32) : Int32 × ST := closeS S (sp_deliver S.1 (dn x) (dn y) (dn z))
def o_lose (S : ST) (x y z : Int32) : Int32 × ST := closeS S (sp_lose S.1 (dn x) (dn y) (dn z))
def o_read (S : ST) (x y z : Int32) : Int32 × ST := closeS S (sp_read S.1 (dn x) (dn y) (dn z))
def o_ask (S : ST) (x : Int32) : Int32 × ST := closeS S (sp_ask S.1 (dn x))
def o_app (S : ST) (x : Int32) : Int32 × ST := if dn x ≤ 255 then (if S.2.2.length < 100 then (nI (S.2.2.length + 1), S.1, S.2.1, S.2.2 ++ [dn x]) else (-3, S)) else (-1, S)
def o_clear (S : ST) : Int32 × ST := (nI S.2.2.length, S.1, S.2.1, [])
def o_runR (S : ST) (r : Nat ⊕ List CM) : Int32 × ST := match r with
  | .inl k => (-10 - nI k, S)
  | .inr L => (nI (runL L S.1).1, (runL L S.1).2, push S.2.1 S.1, [])
def o_run (S : ST) : Int32 × ST := o_runR S (mpar (tt_nu S.1 0) S.2.2 0 0 0 0)
def o_undo (S : ST) : Int32 × ST := if S.2.1.length = 0 then (-2, S) else (nI (S.2.1.length - 1), S.2.1.getD (S.2.1.length - 1) S.1, S.2.1.dropLast, S.2.2)
section FACE
variable {S : ST} {w : Wd}
theorem fc_q {w' : Wd} (h : FC S w) (hf : ∀ k, k ≠ 474 → k ≠ 475 → w' k = w k) : FC S w' := by
  obtain ⟨h1, h2, h3, h4, h5⟩ := h
  exact ⟨rc_frame (by omega) h1 (fun k hk => hf k (by omega) (by omega)), h2, hist_frame h3 (fun k _ _ => hf k (by omega) (by omega)), by rw [hf 482 (by omega) (by omega), hf 483 (by omega) (by omega)]; exact h4, h5⟩
/-- a call that is saved when it is done -/
theorem fc_close (h : FC S w) (op : Wd → Option (Int32 × Wd)) (r : Int32 × TT) (hop : ∀ w1, RepC 0 S.1 w1 → ∃ w2, op w1 = some (r.1, w2) ∧ RepC 0 r.2 w2 ∧ Fs w1 w2) (hq : InvQ r.2) : ∃ w', ((m_X1_stage w).bind fun o1 => (op o1).bind fun o2 => (m_X7_commitIfDone o2.1 o2.2).bind fun o3 => some (o3.1, o3.2)) = some ((closeS S r).1, w') ∧ FC (closeS S r).2 w' := by
  obtain ⟨h1, h2, h3, h4, h5⟩ := h
  obtain ⟨w1, a1, a2, a3, a4⟩ := e_stageH h1 h2 h3
  obtain ⟨w2, b1, b2, b3⟩ := hop w1 a2
  have st := staged_frame a3 (w' := w2) (fun k k1 k2 => b3 k k1 (by omega) (by omega) (by omega) (by omega))
  have tx : RLn (w2 482 1) (w2 483) S.2.2 := by rw [b3 482 (by omega) (by omega) (by omega) (by omega) (by omega), b3 483 (by omega) (by omega) (by omega) (by omega) (by omega), a4 482 (by omega), a4 483 (by omega)]; exact h4
  rw [a1, b_b, b1, b_b]
  dsimp only
  rw [m_X7_commitIfDone]
  unfold closeS
  by_cases c : r.1 < 0
  · rw [if_pos c, b_b]
    refine ⟨w2, rfl, b2, hq, ?_, tx, h5⟩
    show HistC (if r.1 < 0 then _ else _) w2
    rw [if_pos c]; exact staged_hist st
  · obtain ⟨w3, c1, c2, c3⟩ := e_commitH st
    rw [if_neg c, c1, b_b, b_b]
    refine ⟨w3, rfl, rc_frame (by omega) b2 (fun k hk => c3 k (by omega)), hq, ?_, ?_, h5⟩
    · show HistC (if r.1 < 0 then _ else _) w3
      rw [if_neg c]; exact c2
    · show RLn (w3 482 1) (w3 483) _
      rw [c3 482 (by omega), c3 483 (by omega)]; exact tx
theorem f_add (h : FC S w) (x : Int32) : ∃ w', m_X7_addProxy x w = some ((o_add S x).1, w') ∧ FC (o_add S x).2 w' :=
  fc_close h (m_X3_insertProxy x) _ (fun w1 r => by obtain ⟨w2, a, b, c⟩ := e_insertProxy r h.2.1.1 x; exact ⟨w2, a, b, c.fs⟩) (iq_addProxy h.2.1 _)
theorem f_home (h : FC S w) (x y : Int32) : ∃ w', m_X7_setHome x y w = some ((o_home S x y).1, w') ∧ FC (o_home S x y).2 w' :=
  fc_close h (m_X3_changeHome x y) _ (fun w1 r => by obtain ⟨w2, a, b, c⟩ := e_changeHome r h.2.1.1 x y; exact ⟨w2, a, b, c.fs⟩) (iq_setHome h.2.1 _ _)
theorem f_lim (h : FC S w) (x y : Int32) : ∃ w', m_X7_setLimits x y w = some ((o_lim S x y).1, w') ∧ FC (o_lim S x y).2 w' :=
  fc_close h (m_X3_changeLimits x y) _ (fun w1 r => by obtain ⟨w2, a, b, c⟩ := e_changeLimits r h.2.1.1 x y; exact ⟨w2, a, b, c.fs⟩) (iq_setLimits h.2.1 _ _)
theorem f_write (h : FC S w) (x : Int32) : ∃ w', m_X7_write x w = some ((o_write S x).1, w') ∧ FC (o_write S x).2 w' :=
  fc_close h (m_X3_makeWrite x) _ (fun w1 r => by obtain ⟨w2, a, b, c⟩ := e_makeWrite r h.2.1.1 x; exact ⟨w2, a, b, c.fs⟩) (iq_write h.2.1 _)
theorem f_deliver (h : FC S w) (x y z : Int32) : ∃ w', m_X7_deliver x y z w = some ((o_deliver S x y z).1, w') ∧ FC (o_deliver S x y z).2 w' :=
  fc_close h (m_X3_deliverFirst x y z) _ (fun w1 r => by obtain ⟨w2, a, b, c⟩ := e_deliverFirst r h.2.1.1 x y z; exact ⟨w2, a, b, c.fs⟩) (iq_deliver h.2.1 _ _ _)
theorem f_lose (h : FC S w) (x y z : Int32) : ∃ w', m_X7_lose x y z w = some ((o_lose S x y z).1, w') ∧ FC (o_lose S x y z).2 w' :=
  fc_close h (m_X3_loseFirst x y z) _ (fun w1 r => by obtain ⟨w2, a, b, c⟩ := e_loseFirst r h.2.1.1 x y z; exact ⟨w2, a, b, c.fs⟩) (iq_lose h.2.1 _ _ _)
theorem f_read (h : FC S w) (x y z : Int32) : ∃ w', m_X7_read x y z w = some ((o_read S x y z).1, w') ∧ FC (o_read S x y z).2 w' :=
  fc_close h (m_X3_fetchContent x y z) _ (fun w1 r => by obtain ⟨w2, a, b, c⟩ := e_fetchContent r h.2.1.1 x y z; exact ⟨w2, a, b, c.fs⟩) (iq_read h.2.1 _ _ _)
theorem f_ask (h : FC S w) (x : Int32) : ∃ w', m_X7_ask x w = some ((o_ask S x).1, w') ∧ FC (o_ask S x).2 w' :=
  fc_close h (m_X3_askUpward x) _ (fun w1 r => e_askUpward r h.2.1.1 x) (iq_ask h.2.1 _)
theorem f_proxy (h : FC S w) (x y : Int32) : ∃ w', m_X7_proxy x y w = some (sq_proxy S.1 (dn x) (dn y), w') ∧ FC S w' := by
  obtain ⟨w', a, b⟩ := q_proxy h.1 h.2.1.1 x y
  exact ⟨w', a, fc_q h (fun k k1 _ => b k k1)⟩
theorem f_count (h : FC S w) (x : Int32) : m_X7_count x w = some (sq_count S.1 S.2.1.length (dn x)) := by
  obtain ⟨nx, _, _, e, _⟩ := h.2.2.1
  exact q_count h.1 e x
theorem f_served (h : FC S w) (x y : Int32) : ∃ w', m_X7_served x y w = some (sq_served S.1 (dn x) (dn y), w') ∧ FC S w' := by
  obtain ⟨w', a, b⟩ := q_served h.1 h.2.1.1 x y
  exact ⟨w', a, fc_q h (fun k k1 _ => b k k1)⟩
theorem f_status (h : FC S w) (x y z : Int32) : ∃ w', m_X7_status x y z w = some (sq_status S.1 (dn x) (dn y) (dn z), w') ∧ FC S w' := by
  obtain ⟨w', a, b⟩ := q_status h.1 h.2.1.1 x y z
  exact ⟨w', a, fc_q h (fun k k1 _ => b k k1)⟩
theorem f_missing (h : FC S w) (x y z : Int32) : ∃ w', m_X7_missing x y z w = some (sq_missing S.1 (dn x) (dn y) (dn z), w') ∧ FC S w' := by
  obtain ⟨w', a, b⟩ := q_missing h.1 h.2.1.1 x y z
  exact ⟨w', a, fc_q h (fun k _ k2 => b k k2)⟩
theorem f_utd (h : FC S w) : ∃ w', m_X7_upToDate w = some (nI (utd S.1), w') ∧ FC S w' := by
  obtain ⟨w', a, b⟩ := q_utd h.1 h.2.1.1
  exact ⟨w', a, fc_q h (fun k k1 _ => b k k1)⟩
theorem fc_text {X : List Nat} {w' : Wd} (h : FC S w) (hr : RLn (w' 482 1) (w' 483) X) (hl : X.length ≤ 100) (hb : ∀ x ∈ X, x ≤ 255) (hf : ∀ k, k ≠ 482 → k ≠ 483 → w' k = w k) : FC (S.1, S.2.1, X) w' := ⟨rc_frame (by omega) h.1 (fun k hk => hf k (by omega) (by omega)), h.2.1, hist_frame h.2.2.1 (fun k _ _ => hf k (by omega) (by omega)), hr, hl, hb⟩
theorem mpar_ok (np : Nat) : ∀ (Y : List Nat) (st l n k : Nat) (L : List CM), (∀ x ∈ Y, x ≤ 255) → l ≤ 255 → n ≤ 255 → mpar np Y st l n k = .inr L → L.length ≤ Y.length ∧ ∀ c ∈ L, c.1 ≤ 255 ∧ c.2.1 ≤ 255 ∧ c.2.2 ≤ 255 := by
  have cc : ∀ {c : CM} {r : Nat ⊕ List CM} {L : List CM}, consC c r = .inr L → ∃ L', r = .inr L' ∧ L = c :: L' := by
    intro c r L e
    cases r with
    | inl k => cases e
    | inr L' => cases e; exact ⟨L', rfl, rfl⟩
  intro Y
  induction Y with
  | nil =>
    intro st l n k L _ _ _ e
    rw [mpar] at e
    by_cases c : st = 0
    · rw [if_pos c] at e; cases e; exact ⟨Nat.le_refl _, fun c h => by cases h⟩
    · rw [if_neg c] at e; cases e
  | cons x Y ih =>
    intro st l n k L hb hl hn e
    have hx := hb x List.mem_cons_self
    have hY : ∀ y ∈ Y, y ≤ 255 := fun y hy => hb y (List.mem_cons_of_mem _ hy)
    have one : ∀ {st l n k L}, l ≤ 255 → n ≤ 255 → mpar np Y st l n k = .inr L → L.length ≤ (x :: Y).length ∧ ∀ c ∈ L, c.1 ≤ 255 ∧ c.2.1 ≤ 255 ∧ c.2.2 ≤ 255 := by
      intro st l n k L h1 h2 e
      have := ih st l n k L hY h1 h2 e
      exact ⟨by rw [List.length_cons]; omega, this.2⟩
    have two : ∀ {c : CM} {L}, c.1 ≤ 255 ∧ c.2.1 ≤ 255 ∧ c.2.2 ≤ 255 → consC c (mpar np Y 0 0 0 (k + 1)) = .inr L → L.length ≤ (x :: Y).length ∧ ∀ c ∈ L, c.1 ≤ 255 ∧ c.2.1 ≤ 255 ∧ c.2.2 ≤ 255 := by
      intro c L h1 e
      obtain ⟨L', e1, e2⟩ := cc e
      have := ih 0 0 0 (k + 1) L' hY (by omega) (by omega) e1
      rw [e2]
      refine ⟨by rw [List.length_cons, List.length_cons]; omega, fun d hd => ?_⟩
      rcases List.mem_cons.mp hd with z | z
      · rw [z]; exact h1
      · exact this.2 d z
    rw [mpar] at e
    by_cases c : x = 32
    · rw [if_pos c] at e; exact one hl hn e
    rw [if_neg c] at e
    by_cases s0 : st = 0
    · rw [if_pos s0] at e
      by_cases g : (lqu x || lal x) = true
      · rw [if_pos g] at e; exact one hx (by omega) e
      · rw [if_neg g] at e; cases e
    rw [if_neg s0] at e
    by_cases s1 : st = 1
    · rw [if_pos s1] at e
      by_cases g : okN np l x = true
      · rw [if_pos g] at e
        by_cases b : lal l = true
        · rw [if_pos b] at e; exact two ⟨hl, by show x - 48 ≤ 255; omega, by show 0 ≤ 255; omega⟩ e
        · rw [if_neg b] at e; exact one hl (by omega) e
      · rw [if_neg g] at e; cases e
    rw [if_neg s1] at e
    by_cases g : 49 ≤ x ∧ x ≤ 57
    · rw [if_pos g] at e; exact two ⟨hl, hn, by show x - 48 ≤ 255; omega⟩ e
    · rw [if_neg g] at e; cases e
theorem mpar_k (np : Nat) : ∀ (Y : List Nat) (st l n k e : Nat), mpar np Y st l n k = .inl e → k ≤ e ∧ e ≤ k + Y.length := by
  have cc : ∀ {c : CM} {r : Nat ⊕ List CM} {e : Nat}, consC c r = .inl e → r = .inl e := by
    intro c r e h
    cases r with
    | inl k => exact h
    | inr L' => cases h
  intro Y
  induction Y with
  | nil =>
    intro st l n k e h
    rw [mpar] at h
    by_cases c : st = 0
    · rw [if_pos c] at h; cases h
    · rw [if_neg c] at h; cases h; exact ⟨Nat.le_refl _, Nat.le_refl _⟩
  | cons x Y ih =>
    intro st l n k e h
    have one : ∀ {st l n}, mpar np Y st l n (k + 1) = .inl e → k ≤ e ∧ e ≤ k + (x :: Y).length := by
      intro st l n h
      have := ih st l n (k + 1) e h
      rw [List.length_cons]
      omega
    have two : (Sum.inl k : Nat ⊕ List CM) = .inl e → k ≤ e ∧ e ≤ k + (x :: Y).length := by
      intro h
      cases h
      exact ⟨Nat.le_refl _, by omega⟩
    rw [mpar] at h
    by_cases c : x = 32
    · rw [if_pos c] at h; exact one h
    rw [if_neg c] at h
    by_cases s0 : st = 0
    · rw [if_pos s0] at h
      by_cases g : (lqu x || lal x) = true
      · rw [if_pos g] at h; exact one h
      · rw [if_neg g] at h; exact two h
    rw [if_neg s0] at h
    by_cases s1 : st = 1
    · rw [if_pos s1] at h
      by_cases g : okN np l x = true
      · rw [if_pos g] at h
        by_cases b : lal l = true
        · rw [if_pos b] at h; exact one (cc h)
        · rw [if_neg b] at h; exact one h
      · rw [if_neg g] at h; exact two h
    rw [if_neg s1] at h
    by_cases g : 49 ≤ x ∧ x ≤ 57
    · rw [if_pos g] at h; exact one (cc h)
    · rw [if_neg g] at h; exact two h
end FACE
