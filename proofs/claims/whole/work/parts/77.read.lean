/-! reading: numbers and ends -/
def nrm (x : List Int32) (p lo hi : Nat) : Bool := decide ((tk x p).1 = 2) && decide (lo ≤ (tk x p).2.2.2) && decide ((tk x p).2.2.2 < hi)
/-- class: between words, p behind the last -/
def cRd (x : List Int32) (V0 V : xV) (p : Nat) : Prop := cTx V x ∧ V 10 3 = nI x.length ∧ V 10 4 = nI p ∧ p ≤ x.length
section RD
variable {x : List Int32} {V : xV}
theorem kC_2 {p : Nat} (hx : ∀ c ∈ x, 0 ≤ c.toInt ∧ c.toInt ≤ 255) (hp : p ≤ x.length) : kC x (tk x p) = -2 ↔ (tk x p).1 = 2 := by
  obtain ⟨-, h2, h3, -, h5, -⟩ := tk_le x p hp
  unfold kC
  by_cases c0 : (tk x p).1 = 0
  · rw [if_pos c0]
    exact ⟨fun h => absurd h (by decide), fun h => by omega⟩
  rw [if_neg c0]
  by_cases c2 : (tk x p).1 = 2
  · rw [if_pos c2]
    exact ⟨fun _ => c2, fun _ => rfl⟩
  rw [if_neg c2]
  by_cases c4 : (tk x p).1 = 4
  · rw [if_pos c4]
    exact ⟨fun h => absurd h (by decide), fun h => by omega⟩
  rw [if_neg c4]
  have := chA_pos hx (p := (tk x p).2.1) (by have := h5 c0; omega)
  refine ⟨fun h => ?_, fun h => by omega⟩
  rw [h] at this
  exact absurd this (by decide)
theorem c_nrm (hl : x.length ≤ 100) (hx : ∀ c ∈ x, 0 ≤ c.toInt ∧ c.toInt ≤ 255) {p : Nat} (hp : p ≤ x.length) (ht : cTx V x) (h3 : V 10 3 = nI x.length) (h4 : V 10 4 = nI p) {lo hi : Nat} (hlo : lo < 1000) (hhi : hi < 1000) {hI : Int32} (hhI : hI.toInt = (hi : Int) - 1) : ∃ V', f_X1_nextIsNumber (nI lo) hI V = some (bI (nrm x p lo hi), V') ∧ (∀ a, a ≠ 10 → V' a = V a) ∧ (∀ j, j ≠ 4 → j ≠ 5 → j ≠ 6 → j ≠ 7 → V' 10 j = V 10 j) ∧ V' 10 4 = nI (tk x p).2.2.1 ∧ V' 10 5 = nI (tk x p).2.1 ∧ (nrm x p lo hi = true → V' 10 7 = nI (tk x p).2.2.2) := by
  obtain ⟨V', e, f1, f2, v4, v5, v6, v7⟩ := c_adv hl hp ht h3 h4
  have hv := (tk_le x p hp).2.2.2.1
  refine ⟨V', ?_, f1, f2, v4, v5, fun h => v7 ?_⟩
  · unfold f_X1_nextIsNumber f_X1_isNumber
    rw [e, x_b1_some, v6]
    unfold nrm
    by_cases c2 : (tk x p).1 = 2
    · have hv := hv c2
      rw [if_pos ((kC_2 hx hp).mpr c2), v7 c2, decide_eq_true c2, Bool.true_and]
      by_cases c3 : lo ≤ (tk x p).2.2.2
      · rw [if_neg (by rw [i_lt, i_n (by omega), i_n (by omega)]; omega), decide_eq_true c3, Bool.true_and]
        by_cases c4 : (tk x p).2.2.2 < hi
        · rw [if_neg (by rw [i_lt, i_n (by omega), hhI]; omega), decide_eq_true c4]
          rfl
        · rw [if_pos (by rw [i_lt, i_n (by omega), hhI]; omega), decide_eq_false c4]
          rfl
      · rw [if_pos (by rw [i_lt, i_n (by omega), i_n (by omega)]; omega), decide_eq_false c3]
        rfl
    · rw [if_neg (fun h => c2 ((kC_2 hx hp).mp h)), decide_eq_false c2]
      rfl
  · unfold nrm at h
    simp only [Bool.and_eq_true, decide_eq_true_eq] at h
    exact h.1.1
theorem kC_59 {p : Nat} (hp : p ≤ x.length) : kC x (tk x p) = 59 ↔ (tk x p).1 = 3 := by
  have key : ∀ s, kC x (tkS x s) = 59 ↔ (tkS x s).1 = 3 := by
    intro s
    unfold tkS
    by_cases c1 : x.length ≤ s
    · rw [if_pos c1]
      exact ⟨fun h => absurd h (by show ¬ (-1 : Int32) = 59; decide), fun h => by cases h⟩
    · rw [if_neg c1]
      cases hd : dgt (chA x s) with
      | true =>
        simp only [if_true]
        unfold kC
        split
        · exact ⟨fun h => absurd h (by show ¬ (-3 : Int32) = 59; decide), fun h => by cases h⟩
        · exact ⟨fun h => absurd h (by show ¬ (-2 : Int32) = 59; decide), fun h => by cases h⟩
      | false =>
        simp only [Bool.false_eq_true, if_false]
        by_cases c59 : chA x s = 59
        · rw [if_pos c59]
          exact ⟨fun _ => rfl, fun _ => c59⟩
        · rw [if_neg c59]
          cases hlt : isLt (chA x s) with
          | true =>
            simp only [if_true]
            exact ⟨fun h => absurd h c59, fun h => by cases h⟩
          | false =>
            simp only [Bool.false_eq_true, if_false]
            exact ⟨fun h => absurd h (by show ¬ (-3 : Int32) = 59; decide), fun h => by cases h⟩
  exact key _
theorem c_end (hl : x.length ≤ 100) {p : Nat} (hp : p ≤ x.length) (ht : cTx V x) (h3 : V 10 3 = nI x.length) (h4 : V 10 4 = nI p) : ∃ V', f_X1_nextIsEnd V = some (bI (decide ((tk x p).1 = 3)), V') ∧ (∀ a, a ≠ 10 → V' a = V a) ∧ (∀ j, j ≠ 4 → j ≠ 5 → j ≠ 6 → j ≠ 7 → V' 10 j = V 10 j) ∧ V' 10 4 = nI (tk x p).2.2.1 ∧ V' 10 5 = nI (tk x p).2.1 := by
  obtain ⟨V', e, f1, f2, v4, v5, v6, v7⟩ := c_adv hl hp ht h3 h4
  refine ⟨V', ?_, f1, f2, v4, v5⟩
  unfold f_X1_nextIsEnd
  rw [e, x_b1_some, v6]
  by_cases c : (tk x p).1 = 3
  · rw [if_pos ((kC_59 hp).mpr c), decide_eq_true c]
    rfl
  · rw [if_neg (fun h => c ((kC_59 hp).mp h)), decide_eq_false c]
    rfl
end RD
