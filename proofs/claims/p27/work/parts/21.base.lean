/-! ===== numbers: Int32 as Nat ===== -/
theorem lt_eq {α β : Type} (a : α) (f : α → β) : lt a f = f a := Eq.trans (Eq.refl (lt a f)) (Eq.refl (f a))
theorem bs_eq {α β : Type} (a : α) (f : α → Option β) : (some a).bind f = f a := Eq.trans (Eq.refl ((some a).bind f)) (Eq.refl (f a))
theorem z_lt {a b : Nat} (ha : a < 2 ^ 31) (hb : b < 2 ^ 31) : (nI a < nI b) = (a < b) := propext (nI_ltI ha hb)
theorem z_le {a b : Nat} (ha : a < 2 ^ 31) (hb : b < 2 ^ 31) : (nI a ≤ nI b) = (a ≤ b) := propext (nI_leI ha hb)
theorem z_eq {a b : Nat} (ha : a < 2 ^ 31) (hb : b < 2 ^ 31) : (nI a = nI b) = (a = b) := propext (nI_eq ha hb)
theorem z_ib {a n : Nat} (ha : a < 2 ^ 31) : ib (nI a) n = (a < n) := by
  apply propext
  constructor
  · intro h
    have := ib_lt h
    rwa [nI_clamp ha] at this
  · rintro h (q | q)
    · exact nI_pos ha q
    · rw [nI_clamp ha] at q; omega
/-- an int is a number or below 0 -/
theorem z_or (x : Int32) : x < 0 ∨ ∃ n : Nat, n < 2 ^ 31 ∧ x = nI n := by
  rcases Decidable.em (x < 0) with h | h
  · exact Or.inl h
  · exact Or.inr (nI_of h)
theorem z_eq0 {a : Nat} (ha : a < 2 ^ 31) : (nI a = 0) = (a = 0) := z_eq (b := 0) ha (by decide)
theorem z_le0 {a : Nat} (ha : a < 2 ^ 31) : (nI a ≤ 0) = (a = 0) := by rw [show (0 : Int32) = nI 0 from rfl, z_le ha (by decide)]; exact propext Nat.le_zero
theorem z_0le {a : Nat} (ha : a < 2 ^ 31) : ((0 : Int32) ≤ nI a) = True := by rw [show (0 : Int32) = nI 0 from rfl, z_le (by decide) ha]; exact propext ⟨fun _ => trivial, fun _ => Nat.zero_le _⟩
theorem z_0lt {a : Nat} (ha : a < 2 ^ 31) : ((0 : Int32) < nI a) = (0 < a) := by rw [show (0 : Int32) = nI 0 from rfl, z_lt (by decide) ha]
theorem z_lt0 {a : Nat} (ha : a < 2 ^ 31) : (nI a < 0) = False := propext ⟨fun h => nI_pos ha h, False.elim⟩
theorem z_sub {a b : Nat} (h : b ≤ a) : nI a - nI b = nI (a - b) := pk_sub h
theorem z_m1 {a : Nat} (h : 0 < a) : nI a + (-1) = nI (a - 1) := by
  obtain ⟨b, rfl⟩ : ∃ b, a = b + 1 := ⟨a - 1, by omega⟩
  rw [pk_m1]; rfl
theorem b_b {α β : Type} (a : α) (f : α → Option β) : (some a).bind f = f a := rfl
theorem FU5 : ∃ n, FU = n + 5 ∧ 9000 < n := ⟨9995, rfl, by decide⟩
theorem FU1 : ∃ n, FU = n + 1 ∧ 9000 < n := ⟨9999, rfl, by decide⟩
theorem FUb : 9000 < FU := by decide
