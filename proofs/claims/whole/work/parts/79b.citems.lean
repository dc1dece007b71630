section CI
variable {x : List Int32} {V : xV}
/-- a number is asked for, and it fits or not -/
theorem c_numI (hl : x.length ≤ 100) (hx : ∀ c ∈ x, 0 ≤ c.toInt ∧ c.toInt ≤ 255) {p : Nat} (hp : p ≤ x.length) (ht : cTx V x) (h3 : V 10 3 = nI x.length) (h4 : V 10 4 = nI p) {V0 : xV} (f0 : ∀ a, a < 10 ∨ 18 < a → V a = V0 a) (f3 : V 10 3 = V0 10 3) {lo hi : Nat} (hlo : lo < 1000) (hhi : hi < 1000) {hI : Int32} (hhI : hI.toInt = (hi : Int) - 1) {K : xV → Option (Int32 × xV)} {k : Nat → Nat → Sum Nat (rS × Nat)}
    (hK : nrm x p lo hi = true → ∀ V', (∀ a, a ≠ 10 → V' a = V a) → (∀ j, j ≠ 4 → j ≠ 5 → j ≠ 6 → j ≠ 7 → V' 10 j = V 10 j) → V' 10 4 = nI (tk x p).2.2.1 → V' 10 5 = nI (tk x p).2.1 → V' 10 7 = nI (tk x p).2.2.2 → ∃ b V2, K V' = some (b, V2) ∧ cOut x V0 V2 b (k (tk x p).2.2.2 (tk x p).2.2.1)) : ∃ b V2, x_b2 (f_X1_nextIsNumber (nI lo) hI V) (fun x5 V4 => if x5 = 0 then (some ((0 : Int32), V4)) else K V4) = some (b, V2) ∧ cOut x V0 V2 b (numI x p lo hi k) := by
  obtain ⟨V', e, f1, f2, v4, v5, v7⟩ := c_nrm hl hx hp ht h3 h4 hlo hhi hhI
  rw [e, x_b2_some]
  unfold numI
  cases hn : nrm x p lo hi with
  | true =>
    rw [if_neg (by decide)]
    simp only [if_true]
    exact hK hn V' f1 f2 v4 v5 (v7 hn)
  | false =>
    rw [if_pos bI_f]
    simp only [Bool.false_eq_true, if_false]
    exact ⟨0, V', rfl, fun a ha => by rw [f1 a (by omega), f0 a ha], by rw [f2 3 (by decide) (by decide) (by decide) (by decide), f3], rfl, v5⟩
theorem c_pT (hl : x.length ≤ 100) (hx : ∀ c ∈ x, 0 ≤ c.toInt ∧ c.toInt ≤ 255) {s p : Nat} (hp : p ≤ x.length) (ht : cTx V x) (h3 : V 10 3 = nI x.length) (h4 : V 10 4 = nI p) (h5 : V 10 5 = nI s) {r : rS} (hr : cRs V r) (ho : okR r) : ∃ b V2, f_X1_readThing V = some (b, V2) ∧ cOut x V V2 b (pT x r s p) := by
  have hT : r.1.1 ≤ 6 := ho.1.1
  unfold f_X1_readThing pT
  rw [hr.1]
  by_cases c : 6 ≤ r.1.1
  · rw [if_pos (by rw [i_le, i_n (by omega), show (6 : Int32).toInt = 6 from rfl]; omega), if_pos c]
    exact ⟨0, V, rfl, fun _ _ => rfl, rfl, rfl, h5⟩
  · rw [if_neg (by rw [i_le, i_n (by omega), show (6 : Int32).toInt = 6 from rfl]; omega), if_neg c]
    refine c_numI (lo := 0) (hi := 100) hl hx hp ht h3 h4 (fun _ _ => rfl) rfl (by decide) (by decide) (hI := 99) (by decide) (fun hn V' f1 f2 v4 v5 v7 => ?_)
    have e11 : V' 11 0 = nI r.1.1 := by rw [f1 11 (by decide)]; exact hr.1
    rw [e11, if_pos (x_inN (by omega) (by decide)), i_c (by omega), v7, nI_1]
    refine c_endI hl (tk_le x p hp).2.2.1 (V := x_up (x_up V' 12 r.1.1 (nI (tk x p).2.2.2)) 11 0 (nI (r.1.1 + 1))) (ht.cg (by rw [up_a (by decide), up_a (by decide), f1 0 (by decide)]) (by rw [up_a (by decide), up_a (by decide), f1 1 (by decide)])) (by rw [up_a (by decide), up_a (by decide), f2 3 (by decide) (by decide) (by decide) (by decide)]; exact h3) (by rw [up_a (by decide), up_a (by decide)]; exact v4) ?_ (fun a ha => by rw [up_a (by omega), up_a (by omega), f1 a (by omega)]) (by rw [up_a (by decide), up_a (by decide), f2 3 (by decide) (by decide) (by decide) (by decide)])
    obtain ⟨r1, r2, r3, r4, r5, r6, r7, r8, r9, r10⟩ := hr
    refine ⟨up_eq, ?_, ?_, fun t ht' => ?_, fun q hq => ?_, fun j hj => ?_, fun t ht' => ?_, ?_, ?_, ?_⟩
    · rw [up_k (by decide), up_a (by decide), f1 11 (by decide)]; exact r2
    · rw [up_k (by decide), up_a (by decide), f1 11 (by decide)]; exact r3
    · rw [up_a (by decide)]
      show _ = nI (if t = r.1.1 then (tk x p).2.2.2 else r.1.2.2.2.1 t)
      by_cases e : t = r.1.1
      · subst e; rw [up_eq, if_pos rfl]
      · have ht' : t < r.1.1 + 1 := ht'
        rw [up_k e, if_neg e, f1 12 (by decide)]; exact r4 t (by omega)
    · rw [up_a (by decide), up_a (by decide), f1 13 (by decide)]; exact r5 q hq
    · rw [up_a (by decide), up_a (by decide), f1 15 (by decide)]; exact r6 j hj
    · rw [up_a (by decide), up_a (by decide), up_a (by decide), up_a (by decide), up_a (by decide), up_a (by decide), f1 16 (by decide), f1 17 (by decide), f1 18 (by decide)]; exact r7 t ht'
    · rw [up_a (by decide), up_a (by decide), f1 14 (by decide)]; exact r8
    · rw [up_a (by decide), up_a (by decide), f2 8 (by decide) (by decide) (by decide) (by decide)]; exact r9
    · rw [up_a (by decide), up_a (by decide), f2 9 (by decide) (by decide) (by decide) (by decide)]; exact r10
end CI
