section CJ
variable {x : List Int32} {V : xV}
theorem c_pC (hl : x.length ≤ 100) (hx : ∀ c ∈ x, 0 ≤ c.toInt ∧ c.toInt ≤ 255) {s p : Nat} (hp : p ≤ x.length) (ht : cTx V x) (h3 : V 10 3 = nI x.length) (h4 : V 10 4 = nI p) (h5 : V 10 5 = nI s) {r : rS} (hr : cRs V r) (ho : okR r) : ∃ b V2, f_X1_readCases V = some (b, V2) ∧ cOut x V V2 b (pC x r s p) := by
  have hT : r.1.1 ≤ 6 := ho.1.1
  obtain ⟨r1, r2, r3, r4, r5, r6, r7, r8, r9, r10⟩ := id hr
  unfold f_X1_readCases pC
  rw [r9, r1]
  have bad : ∃ b V2, some ((0 : Int32), V) = some (b, V2) ∧ cOut x V V2 b (.inl s) := ⟨0, V, rfl, fun _ _ => rfl, rfl, rfl, h5⟩
  cases hct : r.2.2.1 with
  | true =>
    rw [if_neg (by decide), Bool.true_or, if_pos rfl]
    exact bad
  | false =>
    rw [if_pos bI_f, Bool.false_or]
    by_cases c : 0 < r.1.1
    · rw [if_pos (by rw [i_lt, i_n (by omega), i_0]; omega), decide_eq_true c, if_pos rfl]
      exact bad
    · rw [if_neg (by rw [i_lt, i_n (by omega), i_0]; omega), decide_eq_false c, if_neg (by decide)]
      refine c_numI (lo := 1) (hi := 3) hl hx hp ht h3 h4 (fun _ _ => rfl) rfl (by decide) (by decide) (hI := 2) (by decide) (fun hn V' f1 f2 v4 v5 v7 => ?_)
      rw [v7]
      refine c_endI hl (tk_le x p hp).2.2.1 (V := x_up (x_up V' 10 8 (1 : Int32)) 11 2 (nI (tk x p).2.2.2)) (ht.cg (by rw [up_a (by decide), up_a (by decide), f1 0 (by decide)]) (by rw [up_a (by decide), up_a (by decide), f1 1 (by decide)])) (by rw [up_a (by decide), up_k (by decide), f2 3 (by decide) (by decide) (by decide) (by decide)]; exact h3) (by rw [up_a (by decide), up_k (by decide)]; exact v4) ?_ (fun a ha => by rw [up_a (by omega), up_a (by omega), f1 a (by omega)]) (by rw [up_a (by decide), up_k (by decide), f2 3 (by decide) (by decide) (by decide) (by decide)])
      refine ⟨?_, ?_, up_eq, fun t ht' => ?_, fun q hq => ?_, fun j hj => ?_, fun t ht' => ?_, ?_, ?_, ?_⟩
      · rw [up_k (by decide), up_a (by decide), f1 11 (by decide)]; exact r1
      · rw [up_k (by decide), up_a (by decide), f1 11 (by decide)]; exact r2
      · rw [up_a (by decide), up_a (by decide), f1 12 (by decide)]; exact r4 t ht'
      · rw [up_a (by decide), up_a (by decide), f1 13 (by decide)]; exact r5 q hq
      · rw [up_a (by decide), up_a (by decide), f1 15 (by decide)]; exact r6 j hj
      · rw [up_a (by decide), up_a (by decide), up_a (by decide), up_a (by decide), up_a (by decide), up_a (by decide), f1 16 (by decide), f1 17 (by decide), f1 18 (by decide)]; exact r7 t ht'
      · rw [up_a (by decide), up_a (by decide), f1 14 (by decide)]; exact r8
      · rw [up_a (by decide), up_eq]; rfl
      · rw [up_a (by decide), up_k (by decide), f2 9 (by decide) (by decide) (by decide) (by decide)]; exact r10
end CJ
