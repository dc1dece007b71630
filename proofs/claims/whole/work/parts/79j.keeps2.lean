section KQ
variable {x : List Int32}
theorem g_pC {r : rS} {s p p0 : Nat} (hs : s ≤ x.length) (hp : p ≤ x.length) (h0 : p0 ≤ p) (ho : okR r) : gOut x p0 (pC x r s p) := by
  unfold pC
  cases hc : (r.2.2.1 || decide (0 < r.1.1)) with
  | true => simp only [if_true]; exact hs
  | false =>
    simp only [Bool.false_eq_true, if_false]
    refine g_num hp h0 (fun v e h1 h2 h3 h4 h5 => g_end h5 (by omega) ?_)
    obtain ⟨⟨a1, a2, a3, a4, a5, a6, a7⟩, ⟨b1, b2, b3, b4, b5, b6, b7⟩, c1, c2⟩ := ho
    exact ⟨⟨a1, a2, a3, by show 1 ≤ v; omega, by show v ≤ 2; omega, a6, a7⟩, ⟨fun s b y _ _ h => (by rw [c1] at h; cases h), b2, b3, b4, b5, b6, b7⟩, c1, c2⟩
theorem g_pT {r : rS} {s p p0 : Nat} (hs : s ≤ x.length) (hp : p ≤ x.length) (h0 : p0 ≤ p) (ho : okR r) : gOut x p0 (pT x r s p) := by
  unfold pT
  by_cases hc : 6 ≤ r.1.1
  · rw [if_pos hc]; exact hs
  · rw [if_neg hc]
    refine g_num hp h0 (fun v e h1 h2 h3 h4 h5 => g_end h5 (by omega) ?_)
    obtain ⟨⟨a1, a2, a3, a4, a5, a6, a7⟩, ⟨b1, b2, b3, b4, b5, b6, b7⟩, c1, c2⟩ := ho
    refine ⟨⟨by show r.1.1 + 1 ≤ 6; omega, a2, a3, a4, a5, fun t ht => ?_, a7⟩, ⟨fun s b y _ _ h => (by rw [c1] at h; cases h), fun t q ht h => ?_, b3, b4, fun t u ht h => ?_, b6, b7⟩, c1, c2⟩
    · have ht : t < r.1.1 + 1 := ht
      show (if t = r.1.1 then v else r.1.2.2.2.1 t) ≤ 99
      split
      · omega
      · exact a6 t (by omega)
    · obtain ⟨q1, q2⟩ := b2 t q ht h
      exact ⟨by show t < r.1.1 + 1; omega, q2⟩
    · obtain ⟨q1, q2⟩ := b5 t u ht h
      exact ⟨by show t < r.1.1 + 1; omega, by show u < r.1.1 + 1; omega⟩
theorem g_pX {r : rS} {p p0 : Nat} (hp : p ≤ x.length) (h0 : p0 ≤ p) (ho : okR r) : gOut x p0 (pX x r p) := by
  unfold pX
  refine g_num hp h0 (fun t e h1 h2 h3 h4 h5 => g_num h5 (by omega) (fun o e2 k1 k2 k3 k4 k5 => ?_))
  by_cases c : o = t ∨ (r.2.1.2.2.1 t).testBit o = true
  · rw [if_pos c]
    obtain ⟨q1, q2, q3, -⟩ := tk_le x e h5
    show (tk x e).2.1 ≤ x.length
    omega
  · rw [if_neg c]
    refine g_end k5 (by omega) ?_
    obtain ⟨a, b, c1, c2⟩ := ho
    exact ⟨a, okW_pair b h2 k2 a.1 (fun q => c (Or.inl q.symm)), c1, c2⟩
theorem g_pA {r : rS} {p p0 : Nat} (hp : p ≤ x.length) (h0 : p0 ≤ p) (ho : okR r) : gOut x p0 (pA x r p) := by
  unfold pA
  refine g_num hp h0 (fun t e h1 h2 h3 h4 h5 => g_num h5 (by omega) (fun f e2 k1 k2 k3 k4 k5 => g_num k5 (by omega) (fun g e3 l1 l2 l3 l4 l5 => g_end l5 (by omega) ?_)))
  obtain ⟨a, ⟨b1, b2, b3, b4, b5, b6, b7⟩, c1, c2⟩ := ho
  refine ⟨a, ⟨b1, fun u q hu h => ?_, b3, b4, b5, b6, b7⟩, c1, c2⟩
  have h : (if u = t then some (f, g) else r.2.1.2.1 u) = some q := h
  by_cases e : u = t
  · rw [if_pos e] at h
    cases h
    exact ⟨by rw [e]; exact h2, l1, l2⟩
  · rw [if_neg e] at h
    exact b2 u q hu h
theorem g_pLl {p0 : Nat} : ∀ (m i p : Nat) (r : rS), m + i = 4 → p ≤ x.length → p0 ≤ p → okR r → r.1.1 = 0 → i ≤ r.1.2.1 → gOut x p0 (pLl x r m i p) := by
  intro m
  induction m with
  | zero => intro i p r hm hp h0 ho hT hiS; exact g_end hp h0 ho
  | succ m ih =>
    intro i p r hm hp h0 ho hT hiS
    rw [pLl]
    obtain ⟨q1, q2, q3, q4, q5, -⟩ := tk_le x p hp
    by_cases c : (tk x p).1 = 3 ∧ 0 < i
    · rw [if_pos c]
      exact ⟨ho, by have := q5 (by omega); show p0 < (tk x p).2.2.1; omega, q3⟩
    · rw [if_neg c]
      refine g_num hp h0 (fun v e h1 h2 h3 h4 h5 => ih (i + 1) e _ (by omega) h5 (by omega) ?_ hT (Nat.le_refl _))
      obtain ⟨⟨a1, a2, a3, a4, a5, a6, a7⟩, ⟨b1, b2, b3, b4, b5, b6, b7⟩, c1, c2⟩ := ho
      refine ⟨⟨a1, by show 1 ≤ i + 1; omega, by show i + 1 ≤ 4; omega, a4, a5, a6, fun s hs => ?_⟩, ⟨fun s b y _ _ h => (by rw [c1] at h; cases h), fun t q ht h => ?_, b3, b4, b5, b6, b7⟩, c1, c2⟩
      · have hs : s < i + 1 := hs
        show (if s = i then v else r.1.2.2.2.2 s) ≤ 30
        split
        · omega
        · exact a7 s (by omega)
      · have := (b2 t q ht h).1
        omega
theorem g_pL {r : rS} {s p p0 : Nat} (hs : s ≤ x.length) (hp : p ≤ x.length) (h0 : p0 ≤ p) (ho : okR r) : gOut x p0 (pL x r s p) := by
  unfold pL
  cases hc : (r.2.2.2 || decide (0 < r.1.1)) with
  | true => simp only [if_true]; exact hs
  | false =>
    simp only [Bool.false_eq_true, if_false]
    rw [Bool.or_eq_false_iff, decide_eq_false_iff_not] at hc
    exact g_pLl 4 0 p _ rfl hp h0 ho (by show r.1.1 = 0; omega) (Nat.zero_le _)
theorem g_pI {r : rS} {p : Nat} (hp : p ≤ x.length) (ho : okR r) : gOut x p (pI x r p) := by
  obtain ⟨q1, q2, q3, q4, q5, -⟩ := tk_le x p hp
  unfold pI
  by_cases c : (tk x p).1 = 1
  · rw [if_pos c]
    split
    · exact g_pA q3 (by omega) ho
    · split
      · exact g_pC (by omega) q3 (by omega) ho
      · split
        · exact g_pL (by omega) q3 (by omega) ho
        · split
          · exact g_pT (by omega) q3 (by omega) ho
          · exact g_pX q3 (by omega) ho
  · rw [if_neg c]
    show (tk x p).2.1 ≤ x.length
    omega
end KQ
