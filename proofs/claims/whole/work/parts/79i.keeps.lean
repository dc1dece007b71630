/-! what is read stays well -/
section KP
variable {x : List Int32}
/-- a good outcome: well, and further on -/
def gOut (x : List Int32) (p : Nat) (q : Sum Nat (rS × Nat)) : Prop := match q with
  | .inl s => s ≤ x.length
  | .inr o => okR o.1 ∧ p < o.2 ∧ o.2 ≤ x.length
theorem g_end {p p0 : Nat} (hp : p ≤ x.length) (h0 : p0 ≤ p) {r : rS} (ho : okR r) : gOut x p0 (endI x r p) := by
  obtain ⟨h1, h2, h3, h4, h5, h6⟩ := tk_le x p hp
  unfold endI
  by_cases c : (tk x p).1 = 3
  · rw [if_pos c]
    exact ⟨ho, by have := h5 (by omega); show p0 < (tk x p).2.2.1; omega, h3⟩
  · rw [if_neg c]
    show (tk x p).2.1 ≤ x.length
    omega
theorem g_num {p p0 lo hi : Nat} (hp : p ≤ x.length) (h0 : p0 ≤ p) {k : Nat → Nat → Sum Nat (rS × Nat)} (hk : ∀ v e, lo ≤ v → v < hi → v ≤ 99 → p ≤ e → e ≤ x.length → gOut x p0 (k v e)) : gOut x p0 (numI x p lo hi k) := by
  obtain ⟨h1, h2, h3, h4, h5, h6⟩ := tk_le x p hp
  unfold numI
  cases hn : nrm x p lo hi with
  | true =>
    simp only [if_true]
    unfold nrm at hn
    simp only [Bool.and_eq_true, decide_eq_true_eq] at hn
    exact hk _ _ hn.1.2 hn.2 (h4 hn.1.1) (by omega) h3
  | false =>
    simp only [Bool.false_eq_true, if_false]
    show (tk x p).2.1 ≤ x.length
    omega
end KP
