/-! ===== the script ===== -/
abbrev CM : Type := Nat × Nat × Nat
def lqu (x : Nat) : Bool := decide (x = 117 ∨ x = 100 ∨ x = 120 ∨ x = 121)
def lal (x : Nat) : Bool := decide (x = 119 ∨ x = 97)
def okN (np l x : Nat) : Bool := decide ((if lqu l then 49 else 48) ≤ x ∧ x < 48 + (if l = 119 then 4 else np))
def consC (c : CM) (r : Nat ⊕ List CM) : Nat ⊕ List CM := match r with
  | .inl k => .inl k
  | .inr L => .inr (c :: L)
/-- what stands from the place k on, where st tells what is due (0 a letter, 1 a number, 2 a count): the place of the error, or the commands -/
def mpar (np : Nat) : List Nat → Nat → Nat → Nat → Nat → Nat ⊕ List CM
  | [], st, _, _, k => if st = 0 then .inr [] else .inl k
  | x :: Y, st, l, n, k => if x = 32 then mpar np Y st l n (k + 1) else if st = 0 then (if lqu x || lal x then mpar np Y 1 x 0 (k + 1) else .inl k) else if st = 1 then (if okN np l x then (if lal l then consC (l, x - 48, 0) (mpar np Y 0 0 0 (k + 1)) else mpar np Y 2 l (x - 48) (k + 1)) else .inl k) else (if 49 ≤ x ∧ x ≤ 57 then consC (l, n, x - 48) (mpar np Y 0 0 0 (k + 1)) else .inl k)
def LSt (A : List CM) (st l n : Nat) (w : Wd) : Prop := RLn (w 484 1) (w 485) (A.map (fun c => c.1) ++ (if st = 0 then [] else [l])) ∧ RLn (w 486 1) (w 487) (A.map (fun c => c.2.1) ++ (if st = 2 then [n] else [])) ∧ RLn (w 488 1) (w 489) (A.map (fun c => c.2.2))
def FrS (w w' : Wd) : Prop := ∀ k, k < 484 ∨ 490 ≤ k → w' k = w k
theorem FrS.rf {w : Wd} : FrS w w := fun _ _ => rfl
theorem FrS.tr {w w1 w2 : Wd} (h : FrS w w1) (h2 : FrS w1 w2) : FrS w w2 := fun k a => (h2 k a).trans (h k a)
theorem n1ne : ¬ nI 1 = (0 : Int32) := by decide
theorem pr1 (w : Wd) : some ((nI 1, w).1 &&& 1, (nI 1, w).2) = some (nI 1, w) := by
  show some (nI 1 &&& 1, w) = _
  rw [show nI 1 &&& 1 = nI 1 by decide]
theorem pr0 (w : Wd) : some ((nI 0, w).1 &&& 1, (nI 0, w).2) = some (nI 0, w) := by
  show some (nI 0 &&& 1, w) = _
  rw [show nI 0 &&& 1 = nI 0 by decide]
theorem pr11 (w : Wd) : some (((nI 1, w).1 &&& 1, (nI 1, w).2).1 &&& 1, ((nI 1, w).1 &&& 1, (nI 1, w).2).2) = some (nI (if true = true then 1 else 0), w) := by
  show some (nI 1 &&& 1 &&& 1, w) = _
  rw [show nI 1 &&& 1 &&& 1 = nI 1 by decide]
  rfl
section SCRIPT
variable {w : Wd}
theorem z_neg48 : ∀ x, x < 48 → nI x - nI 48 < 0 ∧ nI x - nI 48 < nI 1 := by decide
theorem fs484 {w w' : Wd} {q : Nat} (h1 : 484 ≤ q) (h2 : q ≤ 488) (h : ∀ k, k ≠ q → k ≠ q + 1 → w' k = w k) : FrS w w' := fun k hk => h k (by omega) (by omega)
theorem last_app {A : List Nat} {l : Nat} : (A ++ [l]).getD A.length 0 = l := by
  rw [List.getD_eq_getElem?_getD, List.getElem?_append_right (Nat.le_refl _), Nat.sub_self]
  rfl
/-- what parse answers -/
def ansP (r : Nat ⊕ List CM) : Int32 := match r with
  | .inl k => nI k
  | .inr _ => -1
def LSx (A : List CM) (r : Nat ⊕ List CM) (w : Wd) : Prop := match r with
  | .inl _ => True
  | .inr L => LSt (A ++ L) 0 0 0 w
theorem ansP_cons (c : CM) (r : Nat ⊕ List CM) : ansP (consC c r) = ansP r := by cases r <;> rfl
theorem LSx_cons {A : List CM} {c : CM} {r : Nat ⊕ List CM} {w : Wd} (h : LSx (A ++ [c]) r w) : LSx A (consC c r) w := by
  cases r with
  | inl k => trivial
  | inr L =>
    show LSt (A ++ c :: L) 0 0 0 w
    have h' : LSt (A ++ [c] ++ L) 0 0 0 w := h
    rwa [List.append_assoc] at h'
def cmdS (T : TT) (c : CM) : Int32 × TT := if c.1 = 97 then sp_ask T c.2.1 else if c.1 = 100 then sp_deliver T c.2.1 1 c.2.2 else if c.1 = 117 then sp_deliver T c.2.1 0 c.2.2 else if c.1 = 119 then sp_write T c.2.1 else if c.1 = 120 then sp_lose T c.2.1 0 c.2.2 else if c.1 = 121 then sp_lose T c.2.1 1 c.2.2 else (-1, T)
def runL : List CM → TT → Nat × TT
  | [], T => (0, T)
  | c :: L, T => ((runL L (cmdS T c).2).1 + (if (cmdS T c).1 < 0 then 0 else 1), (runL L (cmdS T c).2).2)
theorem iq_cmd {T : TT} (h : InvQ T) (c : CM) : InvQ (cmdS T c).2 := by
  unfold cmdS
  split
  · exact iq_ask h _
  · split
    · exact iq_deliver h _ _ _
    · split
      · exact iq_deliver h _ _ _
      · split
        · exact iq_write h _
        · split
          · exact iq_lose h _ _ _
          · split
            · exact iq_lose h _ _ _
            · exact h
theorem iq_run : ∀ (L : List CM) {T : TT}, InvQ T → InvQ (runL L T).2
  | [], _, h => h
  | c :: L, _, h => iq_run L (iq_cmd h c)
theorem runL_le : ∀ (L : List CM) (T : TT), (runL L T).1 ≤ L.length
  | [], _ => Nat.le_refl _
  | c :: L, T => by
    have := runL_le L (cmdS T c).2
    rw [runL, List.length_cons]
    show _ + _ ≤ _
    split <;> omega
end SCRIPT
