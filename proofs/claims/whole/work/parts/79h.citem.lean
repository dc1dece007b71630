section CIT
variable {x : List Int32} {V : xV}
theorem kC_cases (p : Nat) : ((tk x p).1 = 1 ∧ isLt (chA x (tk x p).2.1) = true ∧ kC x (tk x p) = chA x (tk x p).2.1) ∨ ((tk x p).1 ≠ 1 ∧ (kC x (tk x p) = -1 ∨ kC x (tk x p) = -2 ∨ kC x (tk x p) = -3 ∨ kC x (tk x p) = 59)) := by
  have key : ∀ s, ((tkS x s).1 = 1 ∧ isLt (chA x (tkS x s).2.1) = true ∧ kC x (tkS x s) = chA x (tkS x s).2.1) ∨ ((tkS x s).1 ≠ 1 ∧ (kC x (tkS x s) = -1 ∨ kC x (tkS x s) = -2 ∨ kC x (tkS x s) = -3 ∨ kC x (tkS x s) = 59)) := by
    intro s
    unfold tkS
    by_cases c1 : x.length ≤ s
    · rw [if_pos c1]
      exact Or.inr ⟨fun h => (by cases h), Or.inl rfl⟩
    · rw [if_neg c1]
      cases hd : dgt (chA x s) with
      | true =>
        simp only [if_true]
        right
        split
        · exact ⟨fun h => (by cases h), Or.inr (Or.inr (Or.inl rfl))⟩
        · exact ⟨fun h => (by cases h), Or.inr (Or.inl rfl)⟩
      | false =>
        simp only [Bool.false_eq_true, if_false]
        by_cases c59 : chA x s = 59
        · rw [if_pos c59]
          exact Or.inr ⟨fun h => (by cases h), Or.inr (Or.inr (Or.inr c59))⟩
        · rw [if_neg c59]
          cases hlt : isLt (chA x s) with
          | true =>
            simp only [if_true]
            exact Or.inl ⟨trivial, hlt, rfl⟩
          | false =>
            simp only [Bool.false_eq_true, if_false]
            exact Or.inr ⟨fun h => (by cases h), Or.inr (Or.inr (Or.inl rfl))⟩
  exact key _
theorem b01 {b : Int32} {V2 V0 : xV} {q : Sum Nat (rS × Nat)} (h : cOut x V0 V2 b q) : (if b = 0 ∨ b = 1 then some (b, V2) else none) = some (b, V2) := by
  refine if_pos ?_
  cases q with
  | inl s => exact Or.inl h.2.2.1
  | inr o => exact Or.inr h.2.2.1
theorem c_item (hl : x.length ≤ 100) (hx : ∀ c ∈ x, 0 ≤ c.toInt ∧ c.toInt ≤ 255) {p : Nat} (hp : p ≤ x.length) (ht : cTx V x) (h3 : V 10 3 = nI x.length) (h4 : V 10 4 = nI (tk x p).2.2.1) (h5 : V 10 5 = nI (tk x p).2.1) (h6 : V 10 6 = kC x (tk x p)) {r : rS} (hr : cRs V r) (ho : okR r) : ∃ b V2, f_X1_readItem V = some (b, V2) ∧ cOut x V V2 b (pI x r p) := by
  have hp2 := (tk_le x p hp).2.2.1
  unfold f_X1_readItem pI
  rw [h6]
  rcases kC_cases (x := x) p with ⟨k1, kl, ke⟩ | ⟨k1, ke⟩
  · rw [ke, if_pos k1]
    by_cases c97 : chA x (tk x p).2.1 = 97
    · rw [if_pos c97, if_pos c97]
      obtain ⟨b, V2, e, o⟩ := c_pA hl hx hp2 ht h3 h4 hr ho
      exact ⟨b, V2, by rw [e, x_b2_some, b01 o], o⟩
    rw [if_neg c97, if_neg c97]
    by_cases c99 : chA x (tk x p).2.1 = 99
    · rw [if_pos c99, if_pos c99]
      obtain ⟨b, V2, e, o⟩ := c_pC hl hx hp2 ht h3 h4 h5 hr ho
      exact ⟨b, V2, by rw [e, x_b2_some, b01 o], o⟩
    rw [if_neg c99, if_neg c99]
    by_cases c108 : chA x (tk x p).2.1 = 108
    · rw [if_pos c108, if_pos c108]
      obtain ⟨b, V2, e, o⟩ := c_pL hl hx hp2 ht h3 h4 h5 hr ho
      exact ⟨b, V2, by rw [e, x_b2_some, b01 o], o⟩
    rw [if_neg c108, if_neg c108]
    by_cases c116 : chA x (tk x p).2.1 = 116
    · rw [if_pos c116, if_pos c116]
      obtain ⟨b, V2, e, o⟩ := c_pT hl hx hp2 ht h3 h4 h5 hr ho
      exact ⟨b, V2, by rw [e, x_b2_some, b01 o], o⟩
    rw [if_neg c116, if_neg c116]
    have c120 : chA x (tk x p).2.1 = 120 := by
      simp only [isLt, Bool.or_eq_true, decide_eq_true_eq] at kl
      rcases kl with (((h | h) | h) | h) | h
      · exact absurd h c99
      · exact absurd h c108
      · exact absurd h c116
      · exact h
      · exact absurd h c97
    rw [if_pos c120]
    obtain ⟨b, V2, e, o⟩ := c_pX hl hx hp2 ht h3 h4 hr ho
    exact ⟨b, V2, by rw [e, x_b2_some, b01 o], o⟩
  · rw [if_neg k1]
    have bad : ∃ b V2, some ((0 : Int32), V) = some (b, V2) ∧ cOut x V V2 b (.inl (tk x p).2.1) := ⟨0, V, rfl, fun _ _ => rfl, rfl, rfl, h5⟩
    rcases ke with e | e | e | e <;> (rw [e]; exact bad)
end CIT
