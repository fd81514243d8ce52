/-! ===== the script ===== -/
abbrev CM : Type := Nat × Nat × Nat
def lqu (x : Nat) : Bool := decide (x = 117 ∨ x = 100 ∨ x = 120 ∨ x = 121)
def lal (x : Nat) : Bool := decide (x = 119 ∨ x = 97)
def okN (np l x : Nat) : Bool := decide ((if lqu l then 49 else 48) ≤ x ∧ x < 48 + (if l = 119 then 4 else np))
def consC (c : CM) (r : Nat ⊕ List CM) : Nat ⊕ List CM := match r with
  | .inl k => .inl k
  | .inr L => .inr (c :: L)
/-- what stands from the place k on, where st tells what is due (0 a letter, 1 a number, 2 a count): the place of the error, or the commands -/
def mpar (np : Nat) : List Nat → Nat → Nat → Nat → Nat → Nat ⊕ List CM
  | [], st, _, _, k => if st = 0 then .inr [] else .inl k
  | x :: Y, st, l, n, k => if x = 32 then mpar np Y st l n (k + 1) else if st = 0 then (if lqu x || lal x then mpar np Y 1 x 0 (k + 1) else .inl k) else if st = 1 then (if okN np l x then (if lal l then consC (l, x - 48, 0) (mpar np Y 0 0 0 (k + 1)) else mpar np Y 2 l (x - 48) (k + 1)) else .inl k) else (if 49 ≤ x ∧ x ≤ 57 then consC (l, n, x - 48) (mpar np Y 0 0 0 (k + 1)) else .inl k)
def LSt (A : List CM) (st l n : Nat) (w : Wd) : Prop := RLn (w 484 1) (w 485) (A.map (fun c => c.1) ++ (if st = 0 then [] else [l])) ∧ RLn (w 486 1) (w 487) (A.map (fun c => c.2.1) ++ (if st = 2 then [n] else [])) ∧ RLn (w 488 1) (w 489) (A.map (fun c => c.2.2))
def FrS (w w' : Wd) : Prop := ∀ k, k < 484 ∨ 490 ≤ k → w' k = w k
theorem FrS.rf {w : Wd} : FrS w w := fun _ _ => rfl
theorem FrS.tr {w w1 w2 : Wd} (h : FrS w w1) (h2 : FrS w1 w2) : FrS w w2 := fun k a => (h2 k a).trans (h k a)
theorem n1ne : ¬ nI 1 = (0 : Int32) := by decide
theorem pr1 (w : Wd) : some ((nI 1, w).1 &&& 1, (nI 1, w).2) = some (nI 1, w) := by
  show some (nI 1 &&& 1, w) = _
  rw [show nI 1 &&& 1 = nI 1 by decide]
theorem pr0 (w : Wd) : some ((nI 0, w).1 &&& 1, (nI 0, w).2) = some (nI 0, w) := by
  show some (nI 0 &&& 1, w) = _
  rw [show nI 0 &&& 1 = nI 0 by decide]
theorem pr11 (w : Wd) : some (((nI 1, w).1 &&& 1, (nI 1, w).2).1 &&& 1, ((nI 1, w).1 &&& 1, (nI 1, w).2).2) = some (nI (if true = true then 1 else 0), w) := by
  show some (nI 1 &&& 1 &&& 1, w) = _
  rw [show nI 1 &&& 1 &&& 1 = nI 1 by decide]
  rfl
section SCRIPT
variable {w : Wd}
theorem z_neg48 : ∀ x, x < 48 → nI x - nI 48 < 0 ∧ nI x - nI 48 < nI 1 := by decide
theorem e_standsAlone {x : Nat} (hx : x < 2 ^ 31) : m_X4_standsAlone (nI x) = some (nI (if lal x then 1 else 0)) := by
  rw [m_X4_standsAlone]
  unfold lal
  by_cases a : x = 119
  · rw [if_pos (by rw [a]), if_pos (by simp [a])]; rfl
  · rw [if_neg (by rw [z_eq hx (by omega)]; exact a)]
    by_cases b : x = 97
    · rw [if_neg (by rw [b]; exact fun q => q rfl), if_pos (by simp [b])]; rfl
    · rw [if_pos (by rw [z_eq hx (by omega)]; exact b), if_neg (by simp [a, b])]
theorem e_namesQueue {x : Nat} (hx : x < 2 ^ 31) : m_X4_namesQueue (nI x) = some (nI (if lqu x then 1 else 0)) := by
  rw [m_X4_namesQueue]
  unfold lqu
  by_cases a : x = 117
  · rw [if_pos (by rw [a]), if_pos (by simp [a])]; rfl
  rw [if_neg (by rw [z_eq hx (by omega)]; exact a)]
  by_cases b : x = 100
  · rw [if_pos (by rw [b]), if_pos (by simp [b])]; rfl
  rw [if_neg (by rw [z_eq hx (by omega)]; exact b)]
  by_cases c : x = 120
  · rw [if_pos (by rw [c]), if_pos (by simp [c])]; rfl
  rw [if_neg (by rw [z_eq hx (by omega)]; exact c)]
  by_cases d : x = 121
  · rw [if_neg (by rw [d]; exact fun q => q rfl), if_pos (by simp [d])]; rfl
  · rw [if_pos (by rw [z_eq hx (by omega)]; exact d), if_neg (by simp [a, b, c, d])]
theorem fs484 {w w' : Wd} {q : Nat} (h1 : 484 ≤ q) (h2 : q ≤ 488) (h : ∀ k, k ≠ q → k ≠ q + 1 → w' k = w k) : FrS w w' := fun k hk => h k (by omega) (by omega)
theorem e_sign0 {A : List CM} (h : LSt A 0 0 0 w) (hA : A.length < 100) {x np : Nat} (hx : x < 2 ^ 31) : ∃ w', m_X4_takeSign (nI x) (nI np) w = some (nI (if lqu x || lal x then 1 else 0), w') ∧ FrS w w' ∧ ((lqu x || lal x) = true → LSt A 1 x 0 w') := by
  obtain ⟨h1, h2, h3⟩ := h
  have h1' : RLn (w 484 1) (w (484 + 1)) (A.map (fun c => c.1)) := by simpa using h1
  have l1 : (A.map (fun c => c.1)).length = A.length := List.length_map _
  have l3 : (A.map (fun c => c.2.2)).length = A.length := List.length_map _
  have ap : ∃ w', m_X2_append 484 (nI x) w = some (nI 1, w') ∧ FrS w w' ∧ LSt A 1 x 0 w' := by
    obtain ⟨w', a1, a2, a3⟩ := e_app (q := 484) h1' (by rw [l1]; exact hA) (by decide) x
    refine ⟨w', a1, fs484 (by omega) (by omega) a3, a2, ?_, ?_⟩
    · rw [a3 486 (by omega) (by omega), a3 487 (by omega) (by omega)]; exact h2
    · rw [a3 488 (by omega) (by omega), a3 489 (by omega) (by omega)]; exact h3
  rw [m_X4_takeSign, e_len (q := 488) h3, b_b, e_len (q := 484) h1', b_b, l1, l3, if_neg (fun q => q rfl), m_X4_takeLetter, e_standsAlone hx, b_b, e_namesQueue hx]
  by_cases a : lal x = true
  · obtain ⟨w', b1, b2, b3⟩ := ap
    refine ⟨w', ?_, b2, fun _ => b3⟩
    rw [if_pos a, if_pos (by decide), m_X4_takeLetter_j14, b1, b_b, if_neg n1ne, b_b, if_pos (by simp [a])]
    exact pr1 _
  · rw [if_neg a, if_neg (by decide), b_b]
    by_cases b : lqu x = true
    · obtain ⟨w', b1, b2, b3⟩ := ap
      refine ⟨w', ?_, b2, fun _ => b3⟩
      rw [if_pos b, if_neg (by decide), m_X4_takeLetter_j14, b1, b_b, if_neg n1ne, b_b, if_pos (by simp [b])]
      exact pr1 _
    · refine ⟨w, ?_, FrS.rf, fun q => by simp [a, b] at q⟩
      rw [if_neg b, if_pos (by decide), b_b, if_neg (by simp [a, b])]
      exact pr0 _
theorem last_app {A : List Nat} {l : Nat} : (A ++ [l]).getD A.length 0 = l := by
  rw [List.getD_eq_getElem?_getD, List.getElem?_append_right (Nat.le_refl _), Nat.sub_self]
  rfl
theorem e_sign1 {A : List CM} {l : Nat} (h : LSt A 1 l 0 w) (hA : A.length < 100) {x np : Nat} (hx : x < 2 ^ 31) (hnp : np ≤ 8) (hl : l < 2 ^ 31) : ∃ w', m_X4_takeSign (nI x) (nI np) w = some (nI (if okN np l x then 1 else 0), w') ∧ FrS w w' ∧ (okN np l x = true → lal l = true → LSt (A ++ [(l, x - 48, 0)]) 0 0 0 w') ∧ (okN np l x = true → ¬ lal l = true → LSt A 2 l (x - 48) w') := by
  obtain ⟨h1, h2, h3⟩ := h
  have h1' : RLn (w 484 1) (w (484 + 1)) (A.map (fun c => c.1) ++ [l]) := h1
  have h2' : RLn (w 486 1) (w (486 + 1)) (A.map (fun c => c.2.1)) := by simpa using h2
  have l1 : (A.map (fun c => c.1) ++ [l]).length = A.length + 1 := by simp
  have l2 : (A.map (fun c => c.2.1)).length = A.length := List.length_map _
  have l3 : (A.map (fun c => c.2.2)).length = A.length := List.length_map _
  have lst := e_at' (q := 484) h1' (by rw [l1]; show _ ≤ 100; omega) (by decide) (k := A.length) (by rw [l1]; omega)
  have el : (A.map (fun c => c.1) ++ [l]).getD A.length 0 = l := by
    have := last_app (A := A.map (fun c => c.1)) (l := l)
    rwa [List.length_map] at this
  rw [el] at lst
  rw [m_X4_takeSign, e_len (q := 488) h3, b_b, e_len (q := 484) h1', b_b, l1, l3, if_pos (by rw [z_eq (by omega) (by omega)]; omega), e_len (q := 486) h2', b_b, b_b, l2, if_neg (by rw [z_le (by omega) (by omega)]; omega), m_X4_takeNumber, e_len (q := 484) h1', b_b, l1, z_sub (by omega), Nat.add_sub_cancel, lst, b_b, e_namesQueue hl, b_b]
  -- the bounds
  have bd : ∀ (s0 : Nat), s0 ≤ 1 → (if lqu l then 49 else 48) = 48 + s0 → ∃ w', (m_X4_takeNumber_j29 (nI x - nI 48) (nI np) (nI l) (nI s0) w).bind (fun o6 => some ((o6.1 &&& 1), o6.2)) = some (nI (if okN np l x then 1 else 0), w') ∧ FrS w w' ∧ (okN np l x = true → lal l = true → LSt (A ++ [(l, x - 48, 0)]) 0 0 0 w') ∧ (okN np l x = true → ¬ lal l = true → LSt A 2 l (x - 48) w') := by
    intro s0 hs0 es
    have ew : ∃ e, e ≤ 8 ∧ (if l = 119 then 4 else np) = e ∧ m_X4_takeNumber_j29 (nI x - nI 48) (nI np) (nI l) (nI s0) w = m_X4_takeNumber_j42 (nI x - nI 48) (nI l) (nI s0) (nI e) w := by
      by_cases c : l = 119
      · exact ⟨4, by omega, if_pos c, by rw [m_X4_takeNumber_j29, if_neg (by rw [c]; exact fun q => q rfl)]⟩
      · exact ⟨np, hnp, if_neg c, by rw [m_X4_takeNumber_j29, if_pos (by rw [z_eq hl (by omega)]; exact c)]⟩
    obtain ⟨e, he, ee, ej⟩ := ew
    have eo : okN np l x = decide (48 + s0 ≤ x ∧ x < 48 + e) := by unfold okN; rw [es, ee]
    rw [ej, m_X4_takeNumber_j42]
    by_cases c : x < 48
    · have hn := z_neg48 x c
      have hlt : nI x - nI 48 < nI s0 := by
        rcases (show s0 = 0 ∨ s0 = 1 by omega) with rfl | rfl
        · exact hn.1
        · exact hn.2
      rw [if_pos hlt, b_b]
      have eo2 : okN np l x = false := by rw [eo]; simp; omega
      exact ⟨w, by rw [eo2]; exact pr0 _, FrS.rf, fun q => (by rw [eo2] at q; cases q), fun q => (by rw [eo2] at q; cases q)⟩
    · rw [z_sub (by omega)]
      by_cases d : 48 + s0 ≤ x ∧ x < 48 + e
      · have eo2 : okN np l x = true := by rw [eo]; simp; exact d
        rw [if_neg (by rw [z_lt (by omega) (by omega)]; omega), if_pos (by rw [z_lt (by omega) (by omega)]; omega), e_standsAlone hl, b_b]
        by_cases g : lal l = true
        · obtain ⟨w1, a1, a2, a3⟩ := e_app (q := 488) h3 (by rw [l3]; exact hA) (by decide) 0
          have h2w : RLn (w1 486 1) (w1 (486 + 1)) (A.map (fun c => c.2.1)) := by rw [a3 486 (by omega) (by omega), a3 (486 + 1) (by omega) (by omega)]; exact h2'
          obtain ⟨w2, b1, b2, b3⟩ := e_app (q := 486) h2w (by rw [l2]; exact hA) (by decide) (x - 48)
          refine ⟨w2, ?_, (fs484 (by omega) (by omega) a3).tr (fs484 (by omega) (by omega) b3), fun _ _ => ⟨?_, ?_, ?_⟩, fun _ q => absurd g q⟩
          · rw [if_pos g, if_neg (by decide), a1, b_b, m_X4_takeNumber_j74, b1, b_b, b_b, eo2]; exact pr11 _
          · rw [b3 484 (by omega) (by omega), b3 485 (by omega) (by omega), a3 484 (by omega) (by omega), a3 485 (by omega) (by omega)]
            simpa using h1
          · simpa using b2
          · rw [b3 488 (by omega) (by omega), b3 489 (by omega) (by omega)]
            simpa using a2
        · obtain ⟨w2, b1, b2, b3⟩ := e_app (q := 486) h2' (by rw [l2]; exact hA) (by decide) (x - 48)
          refine ⟨w2, ?_, fs484 (by omega) (by omega) b3, fun _ q => absurd q g, fun _ _ => ⟨?_, ?_, ?_⟩⟩
          · rw [if_neg g, if_pos (by decide), m_X4_takeNumber_j74, b1, b_b, b_b, eo2]; exact pr11 _
          · rw [b3 484 (by omega) (by omega), b3 485 (by omega) (by omega)]; exact h1
          · exact b2
          · rw [b3 488 (by omega) (by omega), b3 489 (by omega) (by omega)]; exact h3
      · have eo2 : okN np l x = false := by rw [eo]; simp; omega
        refine ⟨w, ?_, FrS.rf, fun q => (by rw [eo2] at q; cases q), fun q => (by rw [eo2] at q; cases q)⟩
        by_cases g : x - 48 < s0
        · rw [if_pos (by rw [z_lt (by omega) (by omega)]; exact g), b_b, eo2]; exact pr0 _
        · rw [if_neg (by rw [z_lt (by omega) (by omega)]; exact g), if_neg (by rw [z_lt (by omega) (by omega)]; omega), b_b, eo2]; exact pr0 _
  by_cases g : lqu l = true
  · rw [if_pos g, if_neg (by decide)]
    exact bd 1 (by omega) (by rw [if_pos g])
  · rw [if_neg g, if_pos (by decide)]
    exact bd 0 (by omega) (by rw [if_neg g])
theorem e_sign2 {A : List CM} {l n : Nat} (h : LSt A 2 l n w) (hA : A.length < 100) {x np : Nat} (hx : x < 2 ^ 31) : ∃ w', m_X4_takeSign (nI x) (nI np) w = some (nI (if 49 ≤ x ∧ x ≤ 57 then 1 else 0), w') ∧ FrS w w' ∧ (49 ≤ x ∧ x ≤ 57 → LSt (A ++ [(l, n, x - 48)]) 0 0 0 w') := by
  obtain ⟨h1, h2, h3⟩ := h
  have h1' : RLn (w 484 1) (w (484 + 1)) (A.map (fun c => c.1) ++ [l]) := h1
  have h2' : RLn (w 486 1) (w (486 + 1)) (A.map (fun c => c.2.1) ++ [n]) := h2
  have l1 : (A.map (fun c => c.1) ++ [l]).length = A.length + 1 := by simp
  have l2 : (A.map (fun c => c.2.1) ++ [n]).length = A.length + 1 := by simp
  have l3 : (A.map (fun c => c.2.2)).length = A.length := List.length_map _
  rw [m_X4_takeSign, e_len (q := 488) h3, b_b, e_len (q := 484) h1', b_b, l1, l3, if_pos (by rw [z_eq (by omega) (by omega)]; omega), e_len (q := 486) h2', b_b, b_b, l2, if_pos (by rw [z_le (by omega) (by omega)]; omega), m_X4_takeCount]
  by_cases c : x < 48
  · rw [if_pos (z_neg48 x c).2, b_b]
    exact ⟨w, by rw [if_neg (by omega)]; exact pr0 _, FrS.rf, fun q => by omega⟩
  · rw [z_sub (by omega)]
    by_cases d : 49 ≤ x ∧ x ≤ 57
    · obtain ⟨w1, a1, a2, a3⟩ := e_app (q := 488) h3 (by rw [l3]; exact hA) (by decide) (x - 48)
      refine ⟨w1, ?_, fs484 (by omega) (by omega) a3, fun _ => ⟨?_, ?_, ?_⟩⟩
      · rw [if_neg (by rw [z_lt (by omega) (by omega)]; omega), if_neg (by rw [z_lt (by omega) (by omega)]; omega), a1, b_b, if_neg n1ne, b_b, if_pos d]; exact pr1 _
      · rw [a3 484 (by omega) (by omega), a3 485 (by omega) (by omega)]
        simpa using h1
      · rw [a3 486 (by omega) (by omega), a3 487 (by omega) (by omega)]
        simpa using h2
      · simpa using a2
    · refine ⟨w, ?_, FrS.rf, fun q => absurd q d⟩
      by_cases g : x - 48 < 1
      · rw [if_pos (by rw [z_lt (by omega) (by omega)]; exact g), b_b, if_neg d]; exact pr0 _
      · rw [if_neg (by rw [z_lt (by omega) (by omega)]; exact g), if_pos (by rw [z_lt (by omega) (by omega)]; omega), b_b, if_neg d]; exact pr0 _
/-- what parse answers -/
def ansP (r : Nat ⊕ List CM) : Int32 := match r with
  | .inl k => nI k
  | .inr _ => -1
def LSx (A : List CM) (r : Nat ⊕ List CM) (w : Wd) : Prop := match r with
  | .inl _ => True
  | .inr L => LSt (A ++ L) 0 0 0 w
theorem ansP_cons (c : CM) (r : Nat ⊕ List CM) : ansP (consC c r) = ansP r := by cases r <;> rfl
theorem LSx_cons {A : List CM} {c : CM} {r : Nat ⊕ List CM} {w : Wd} (h : LSx (A ++ [c]) r w) : LSx A (consC c r) w := by
  cases r with
  | inl k => trivial
  | inr L =>
    show LSt (A ++ c :: L) 0 0 0 w
    have h' : LSt (A ++ [c] ++ L) 0 0 0 w := h
    rwa [List.append_assoc] at h'
theorem e_parse_L {X : List Nat} (hX : X.length ≤ 100) (hXb : ∀ x ∈ X, x ≤ 255) {np : Nat} (hnp : np ≤ 8) : ∀ (Y : List Nat) (n k st l nn : Nat) (A : List CM) (w : Wd), X.drop k = Y → k ≤ X.length → Y.length < n → RLn (w 482 1) (w 483) X → st ≤ 2 → LSt A st l nn w → A.length ≤ k → (st = 0 → l = 0 ∧ nn = 0) → (st = 1 → nn = 0 ∧ l < 2 ^ 31) → (st ≠ 0 → A.length < k) → ∃ w', m_X4_parse_L23 482 (nI np) (fun w4 =>
    (m_X2_length 488 w4).bind fun o5 =>
    (m_X2_length 484 w4).bind fun o6 =>
    if ¬ o5 = o6 then
      (m_X2_length 482 w4).bind fun o7 =>
      some (o7, w4)
    else
    some ((-1 : Int32), w4)) n (nI k) w = some (ansP (mpar np Y st l nn k), w') ∧ LSx A (mpar np Y st l nn k) w' ∧ FrS w w' := by
  intro Y
  induction Y with
  | nil =>
    intro n k st l nn A w hY hk hn hr hst hls hA h0 h1 h2
    obtain ⟨n, rfl⟩ : ∃ m, n = m + 1 := ⟨n - 1, by simp at hn; omega⟩
    have hlen : X.length = k := by
      have := congrArg List.length hY
      simp at this
      omega
    refine ⟨w, ?_, ?_, FrS.rf⟩
    · rw [m_X4_parse_L23, e_len (q := 482) hr, b_b, if_pos (by rw [z_le (by omega) (by omega)]; omega), e_len (q := 488) hls.2.2, b_b, e_len (q := 484) hls.1, b_b, mpar, List.length_append, List.length_map, List.length_map]
      by_cases c : st = 0
      · rw [if_pos c, if_pos c, if_neg (by rw [List.length_nil, Nat.add_zero]; exact fun q => q rfl)]; rfl
      · have := h2 c
        rw [if_neg c, if_neg c, List.length_singleton, if_pos (by rw [z_eq (by omega) (by omega)]; omega), b_b, hlen]; rfl
    · rw [mpar]
      by_cases c : st = 0
      · rw [if_pos c]
        show LSt (A ++ []) 0 0 0 w
        rw [List.append_nil]
        obtain ⟨e1, e2⟩ := h0 c
        subst c; subst e1; subst e2
        exact hls
      · rw [if_neg c]; trivial
  | cons x Y ih =>
    intro n k st l nn A w hY hk hn hr hst hls hA h0 h1 h2
    obtain ⟨n, rfl⟩ : ∃ m, n = m + 1 := ⟨n - 1, by simp at hn; omega⟩
    have hlt : k < X.length := by
      have := congrArg List.length hY
      simp at this
      omega
    have hdd : X[k] :: X.drop (k + 1) = x :: Y := by rw [← hY]; exact (List.drop_eq_getElem_cons hlt).symm
    have hd1 : X[k] = x := (List.cons.inj hdd).1
    have hd2 : X.drop (k + 1) = Y := (List.cons.inj hdd).2
    have hx : x ≤ 255 := by rw [← hd1]; exact hXb _ (List.getElem_mem hlt)
    have hat := e_at (q := 482) hr (by show _ ≤ 100; exact hX) (by decide) hlt
    rw [hd1] at hat
    rw [List.length_cons] at hn
    rw [m_X4_parse_L23, e_len (q := 482) hr, b_b, if_neg (by rw [z_le (by omega) (by omega)]; omega), hat, b_b]
    by_cases c : x = 32
    · have em : mpar np (x :: Y) st l nn k = mpar np Y st l nn (k + 1) := by rw [mpar, if_pos c]
      rw [if_pos (by rw [c]), em, m_X4_parse_j57, nI_add]
      exact ih n (k + 1) st l nn A w hd2 (by omega) (by omega) hr hst hls (by omega) h0 h1 (fun q => by have := h2 q; omega)
    · rw [if_neg (by rw [z_eq (by omega) (by omega)]; exact c)]
      have tx : ∀ {w' : Wd}, FrS w w' → RLn (w' 482 1) (w' 483) X := fun f => by rw [f 482 (by omega), f 483 (by omega)]; exact hr
      by_cases s0 : st = 0
      · obtain ⟨e1, e2⟩ := h0 s0
        subst s0; subst e1; subst e2
        obtain ⟨w1, a1, a2, a3⟩ := e_sign0 hls (by omega) (x := x) (np := np) (by omega)
        rw [a1, b_b]
        dsimp only
        by_cases g : (lqu x || lal x) = true
        · have em : mpar np (x :: Y) 0 0 0 k = mpar np Y 1 x 0 (k + 1) := by rw [mpar, if_neg c, if_pos rfl, if_pos g]
          rw [if_pos g, if_pos n1ne, em, m_X4_parse_j57, nI_add]
          obtain ⟨w', b1, b2, b3⟩ := ih n (k + 1) 1 x 0 A w1 hd2 (by omega) (by omega) (tx a2) (by omega) (a3 g) (by omega) (fun q => by omega) (fun _ => ⟨rfl, by omega⟩) (fun _ => by omega)
          exact ⟨w', b1, b2, a2.tr b3⟩
        · have em : mpar np (x :: Y) 0 0 0 k = .inl k := by rw [mpar, if_neg c, if_pos rfl, if_neg g]
          rw [if_neg g, if_neg (by decide), em]
          exact ⟨w1, rfl, trivial, a2⟩
      · have hAk := h2 s0
        by_cases s1 : st = 1
        · obtain ⟨e2, hl⟩ := h1 s1
          subst s1; subst e2
          obtain ⟨w1, a1, a2, a3, a4⟩ := e_sign1 hls (by omega) (x := x) (np := np) (by omega) hnp hl
          rw [a1, b_b]
          dsimp only
          by_cases g : okN np l x = true
          · rw [if_pos g, if_pos n1ne, m_X4_parse_j57, nI_add]
            by_cases b : lal l = true
            · have em : mpar np (x :: Y) 1 l 0 k = consC (l, x - 48, 0) (mpar np Y 0 0 0 (k + 1)) := by rw [mpar, if_neg c, if_neg s0, if_pos rfl, if_pos g, if_pos b]
              obtain ⟨w', b1, b2, b3⟩ := ih n (k + 1) 0 0 0 (A ++ [(l, x - 48, 0)]) w1 hd2 (by omega) (by omega) (tx a2) (by omega) (a3 g b) (by rw [List.length_append]; show _ + 1 ≤ _; omega) (fun _ => ⟨rfl, rfl⟩) (fun q => by omega) (fun q => absurd rfl q)
              rw [em, ansP_cons]
              exact ⟨w', b1, LSx_cons b2, a2.tr b3⟩
            · have em : mpar np (x :: Y) 1 l 0 k = mpar np Y 2 l (x - 48) (k + 1) := by rw [mpar, if_neg c, if_neg s0, if_pos rfl, if_pos g, if_neg b]
              obtain ⟨w', b1, b2, b3⟩ := ih n (k + 1) 2 l (x - 48) A w1 hd2 (by omega) (by omega) (tx a2) (by omega) (a4 g b) (by omega) (fun q => by omega) (fun q => by omega) (fun q => by omega)
              rw [em]
              exact ⟨w', b1, b2, a2.tr b3⟩
          · have em : mpar np (x :: Y) 1 l 0 k = .inl k := by rw [mpar, if_neg c, if_neg s0, if_pos rfl, if_neg g]
            rw [if_neg g, if_neg (by decide), em]
            exact ⟨w1, rfl, trivial, a2⟩
        · have s2 : st = 2 := by omega
          subst s2
          obtain ⟨w1, a1, a2, a3⟩ := e_sign2 hls (by omega) (x := x) (np := np) (by omega)
          rw [a1, b_b]
          dsimp only
          by_cases g : 49 ≤ x ∧ x ≤ 57
          · have em : mpar np (x :: Y) 2 l nn k = consC (l, nn, x - 48) (mpar np Y 0 0 0 (k + 1)) := by rw [mpar, if_neg c, if_neg s0, if_neg s1, if_pos g]
            rw [if_pos g, if_pos n1ne, em, m_X4_parse_j57, nI_add, ansP_cons]
            obtain ⟨w', b1, b2, b3⟩ := ih n (k + 1) 0 0 0 (A ++ [(l, nn, x - 48)]) w1 hd2 (by omega) (by omega) (tx a2) (by omega) (a3 g) (by rw [List.length_append]; show _ + 1 ≤ _; omega) (fun _ => ⟨rfl, rfl⟩) (fun q => by omega) (fun q => absurd rfl q)
            exact ⟨w', b1, LSx_cons b2, a2.tr b3⟩
          · have em : mpar np (x :: Y) 2 l nn k = .inl k := by rw [mpar, if_neg c, if_neg s0, if_neg s1, if_neg g]
            rw [if_neg g, if_neg (by decide), em]
            exact ⟨w1, rfl, trivial, a2⟩
theorem e_parse {X : List Nat} (hX : X.length ≤ 100) (hXb : ∀ x ∈ X, x ≤ 255) {np : Nat} (hnp : np ≤ 8) (hr : RLn (w 482 1) (w 483) X) : ∃ w', m_X4_parse 482 (nI np) w = some (ansP (mpar np X 0 0 0 0), w') ∧ LSx [] (mpar np X 0 0 0 0) w' ∧ FrS w w' := by
  obtain ⟨w1, a1, a2, a3⟩ := e_clear w 484
  obtain ⟨w2, b1, b2, b3⟩ := e_clear w1 486
  obtain ⟨w3, c1, c2, c3⟩ := e_clear w2 488
  have f : FrS w w3 := fun k hk => by rw [c3 k (by omega), b3 k (by omega), a3 k (by omega)]
  have hF := FUb
  obtain ⟨w', d1, d2, d3⟩ := e_parse_L hX hXb hnp X FU 0 0 0 0 [] w3 rfl (Nat.zero_le _) (by omega) (by rw [f 482 (by omega), f 483 (by omega)]; exact hr) (by omega) ⟨by
    rw [c3 484 (by omega), c3 485 (by omega), b3 484 (by omega), b3 485 (by omega)]; exact a2, by
    rw [c3 486 (by omega), c3 487 (by omega)]; exact b2, c2⟩ (Nat.le_refl _) (fun _ => ⟨rfl, rfl⟩) (fun q => by omega) (fun q => absurd rfl q)
  refine ⟨w', ?_, d2, f.tr d3⟩
  rw [m_X4_parse, a1, b_b, b1, b_b, c1, b_b]
  exact d1
def cmdS (T : TT) (c : CM) : Int32 × TT := if c.1 = 97 then sp_ask T c.2.1 else if c.1 = 100 then sp_deliver T c.2.1 1 c.2.2 else if c.1 = 117 then sp_deliver T c.2.1 0 c.2.2 else if c.1 = 119 then sp_write T c.2.1 else if c.1 = 120 then sp_lose T c.2.1 0 c.2.2 else if c.1 = 121 then sp_lose T c.2.1 1 c.2.2 else (-1, T)
def runL : List CM → TT → Nat × TT
  | [], T => (0, T)
  | c :: L, T => ((runL L (cmdS T c).2).1 + (if (cmdS T c).1 < 0 then 0 else 1), (runL L (cmdS T c).2).2)
theorem iq_cmd {T : TT} (h : InvQ T) (c : CM) : InvQ (cmdS T c).2 := by
  unfold cmdS
  split
  · exact iq_ask h _
  · split
    · exact iq_deliver h _ _ _
    · split
      · exact iq_deliver h _ _ _
      · split
        · exact iq_write h _
        · split
          · exact iq_lose h _ _ _
          · split
            · exact iq_lose h _ _ _
            · exact h
theorem iq_run : ∀ (L : List CM) {T : TT}, InvQ T → InvQ (runL L T).2
  | [], _, h => h
  | c :: L, _, h => iq_run L (iq_cmd h c)
theorem runL_le : ∀ (L : List CM) (T : TT), (runL L T).1 ≤ L.length
  | [], _ => Nat.le_refl _
  | c :: L, T => by
    have := runL_le L (cmdS T c).2
    rw [runL, List.length_cons]
    show _ + _ ≤ _
    split <;> omega
theorem e_runCommand {T : TT} {w : Wd} (h : RepC 0 T w) (Q : InvQ T) {l n c : Nat} (hl : l < 2 ^ 31) (hn : n < 2 ^ 31) (hc : c < 2 ^ 31) : ∃ w', m_X7_runCommand (nI l) (nI n) (nI c) w = some ((cmdS T (l, n, c)).1, w') ∧ RepC 0 (cmdS T (l, n, c)).2 w' ∧ Fs w w' := by
  have I := Q.1
  rw [m_X7_runCommand]
  unfold cmdS
  dsimp only
  by_cases k0 : l = 97
  · obtain ⟨w', a1, a2, a3⟩ := e_askUpward h I (nI n)
    rw [dn_nI hn] at a1 a2
    rw [if_pos (by rw [k0]), if_pos k0, a1, b_b]
    exact ⟨w', rfl, a2, a3⟩
  rw [if_neg (by rw [z_eq hl (by omega)]; exact k0), if_neg k0]
  by_cases k1 : l = 100
  · obtain ⟨w', a1, a2, a3⟩ := e_deliverFirst h I (nI n) (nI 1) (nI c)
    rw [dn_nI hn, dn_nI hc, dn_nI (by omega)] at a1 a2
    rw [if_pos (by rw [k1]), if_pos k1, a1, b_b]
    exact ⟨w', rfl, a2, a3.fs⟩
  rw [if_neg (by rw [z_eq hl (by omega)]; exact k1), if_neg k1]
  by_cases k2 : l = 117
  · obtain ⟨w', a1, a2, a3⟩ := e_deliverFirst h I (nI n) (nI 0) (nI c)
    rw [dn_nI hn, dn_nI hc, dn_nI (by omega)] at a1 a2
    rw [if_pos (by rw [k2]), if_pos k2, a1, b_b]
    exact ⟨w', rfl, a2, a3.fs⟩
  rw [if_neg (by rw [z_eq hl (by omega)]; exact k2), if_neg k2]
  by_cases k3 : l = 119
  · obtain ⟨w', a1, a2, a3⟩ := e_makeWrite h I (nI n)
    rw [dn_nI hn] at a1 a2
    rw [if_pos (by rw [k3]), if_pos k3, a1, b_b]
    exact ⟨w', rfl, a2, a3.fs⟩
  rw [if_neg (by rw [z_eq hl (by omega)]; exact k3), if_neg k3]
  by_cases k4 : l = 120
  · obtain ⟨w', a1, a2, a3⟩ := e_loseFirst h I (nI n) (nI 0) (nI c)
    rw [dn_nI hn, dn_nI hc, dn_nI (by omega)] at a1 a2
    rw [if_pos (by rw [k4]), if_pos k4, a1, b_b]
    exact ⟨w', rfl, a2, a3.fs⟩
  rw [if_neg (by rw [z_eq hl (by omega)]; exact k4), if_neg k4]
  by_cases k5 : l = 121
  · obtain ⟨w', a1, a2, a3⟩ := e_loseFirst h I (nI n) (nI 1) (nI c)
    rw [dn_nI hn, dn_nI hc, dn_nI (by omega)] at a1 a2
    rw [if_pos (by rw [k5]), if_pos k5, a1, b_b]
    exact ⟨w', rfl, a2, a3.fs⟩
  rw [if_neg (by rw [z_eq hl (by omega)]; exact k5), if_neg k5]
  exact ⟨w, rfl, h, Fs.rf⟩
theorem e_run_L {M : List CM} (hM : M.length ≤ 100) (hb : ∀ c ∈ M, c.1 < 2 ^ 31 ∧ c.2.1 < 2 ^ 31 ∧ c.2.2 < 2 ^ 31) : ∀ (L : List CM) (n k a : Nat) (T : TT) (w : Wd), M.drop k = L → k ≤ M.length → L.length < n → a + L.length < 1000 → RepC 0 T w → InvQ T → LSt M 0 0 0 w → ∃ w', m_X7_runScript_L58 n (nI a) (nI k) w = some (nI (a + (runL L T).1), w') ∧ RepC 0 (runL L T).2 w' ∧ Fs w w' := by
  intro L
  induction L with
  | nil =>
    intro n k a T w hd hk hn ha h Q hls
    obtain ⟨n, rfl⟩ : ∃ m, n = m + 1 := ⟨n - 1, by simp at hn; omega⟩
    have hlen : M.length ≤ k := by
      have := congrArg List.length hd
      simp at this
      omega
    have h1' : RLn (w 484 1) (w (484 + 1)) (M.map (fun c => c.1)) := by simpa using hls.1
    refine ⟨w, ?_, h, Fs.rf⟩
    rw [m_X7_runScript_L58, m_X4_length, e_len (q := 484) h1', b_b, List.length_map, b_b, if_pos (by rw [z_le (by omega) (by omega)]; omega)]
    rfl
  | cons c L ih =>
    intro n k a T w hd hk hn ha h Q hls
    obtain ⟨n, rfl⟩ : ∃ m, n = m + 1 := ⟨n - 1, by simp at hn; omega⟩
    have hlt : k < M.length := by
      have := congrArg List.length hd
      simp at this
      omega
    have hdd : M[k] :: M.drop (k + 1) = c :: L := by rw [← hd]; exact (List.drop_eq_getElem_cons hlt).symm
    have hd1 : M[k] = c := (List.cons.inj hdd).1
    have hd2 : M.drop (k + 1) = L := (List.cons.inj hdd).2
    have hc := hb c (by rw [← hd1]; exact List.getElem_mem hlt)
    obtain ⟨g1, g2, g3⟩ := id hls
    have h1' : RLn (w 484 1) (w (484 + 1)) (M.map (fun c => c.1)) := by simpa using g1
    have h2' : RLn (w 486 1) (w (486 + 1)) (M.map (fun c => c.2.1)) := by simpa using g2
    have lm : ∀ f : CM → Nat, (M.map f).length = M.length := fun f => List.length_map _
    have gd : ∀ f : CM → Nat, (M.map f).getD k 0 = f c := by
      intro f
      rw [List.getD_eq_getElem?_getD, List.getElem?_map, List.getElem?_eq_getElem hlt, hd1]
      rfl
    have t1 := e_at' (q := 484) h1' (by rw [lm]; exact hM) (by decide) (k := k) (by rw [lm]; exact hlt)
    have t2 := e_at' (q := 486) h2' (by rw [lm]; exact hM) (by decide) (k := k) (by rw [lm]; exact hlt)
    have t3 := e_at' (q := 488) g3 (by rw [lm]; exact hM) (by decide) (k := k) (by rw [lm]; exact hlt)
    rw [gd] at t1 t2 t3
    obtain ⟨w1, a1, a2, a3⟩ := e_runCommand h Q hc.1 hc.2.1 hc.2.2
    have hls1 : LSt M 0 0 0 w1 := by
      refine ⟨?_, ?_, ?_⟩
      · rw [a3 484 (by omega) (by omega) (by omega) (by omega) (by omega), a3 485 (by omega) (by omega) (by omega) (by omega) (by omega)]; exact g1
      · rw [a3 486 (by omega) (by omega) (by omega) (by omega) (by omega), a3 487 (by omega) (by omega) (by omega) (by omega) (by omega)]; exact g2
      · rw [a3 488 (by omega) (by omega) (by omega) (by omega) (by omega), a3 489 (by omega) (by omega) (by omega) (by omega) (by omega)]; exact g3
    rw [List.length_cons] at hn ha
    rw [m_X7_runScript_L58, m_X4_length, e_len (q := 484) h1', b_b, lm, b_b, if_neg (by rw [z_le (by omega) (by omega)]; omega), m_X4_letterAt, t1, b_b, b_b, m_X4_numberAt, t2, b_b, b_b, m_X4_countAt, t3, b_b, b_b, a1, b_b, runL]
    have Q1 := iq_cmd Q c
    change RepC 0 (cmdS T c).2 w1 at a2
    change ∃ w', (if (cmdS T c).1 < 0 then _ else _) = _ ∧ _
    by_cases g : (cmdS T c).1 < 0
    · obtain ⟨w', b1, b2, b3⟩ := ih n (k + 1) a (cmdS T c).2 w1 hd2 (by omega) (by omega) (by omega) a2 Q1 hls1
      rw [if_pos g, if_pos g, m_X7_runScript_j103, nI_add]
      exact ⟨w', b1, b2, a3.tr b3⟩
    · obtain ⟨w', b1, b2, b3⟩ := ih n (k + 1) (a + 1) (cmdS T c).2 w1 hd2 (by omega) (by omega) (by omega) a2 Q1 hls1
      rw [if_neg g, if_neg g, m_X7_runScript_j103, nI_add, nI_add]
      exact ⟨w', by rw [b1, show a + 1 + (runL L (cmdS T c).2).1 = a + ((runL L (cmdS T c).2).1 + 1) by omega], b2, a3.tr b3⟩
end SCRIPT
