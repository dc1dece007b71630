section CL
variable {x : List Int32} {V : xV}
theorem c_pX (hl : x.length ≤ 100) (hx : ∀ c ∈ x, 0 ≤ c.toInt ∧ c.toInt ≤ 255) {p : Nat} (hp : p ≤ x.length) (ht : cTx V x) (h3 : V 10 3 = nI x.length) (h4 : V 10 4 = nI p) {r : rS} (hr : cRs V r) (ho : okR r) : ∃ b V2, f_X1_readBarred V = some (b, V2) ∧ cOut x V V2 b (pX x r p) := by
  have hT : r.1.1 ≤ 6 := ho.1.1
  obtain ⟨r1, r2, r3, r4, r5, r6, r7, r8, r9, r10⟩ := id hr
  unfold f_X1_readBarred pX
  rw [r1]
  refine c_numI (lo := 0) (hi := r.1.1) hl hx hp ht h3 h4 (fun _ _ => rfl) rfl (by decide) (by omega) (hI := nI r.1.1 - 1) (by rw [show (1 : Int32) = nI 1 from rfl, i_s (by omega) (by decide)]; rfl) (fun hn V1 f1 g1 v4 v5 v7 => ?_)
  have p1 := (tk_le x p hp).2.2.1
  have hn1 : (tk x p).2.2.2 < r.1.1 := by
    unfold nrm at hn
    simp only [Bool.and_eq_true, decide_eq_true_eq] at hn
    exact hn.2
  have e11 : V1 11 0 = nI r.1.1 := by rw [f1 11 (by decide)]; exact r1
  have ht1 : cTx V1 x := ht.cg (by rw [f1 0 (by decide)]) (f1 1 (by decide))
  have w3 : V1 10 3 = nI x.length := by rw [g1 3 (by decide) (by decide) (by decide) (by decide)]; exact h3
  rw [e11, v7]
  generalize (tk x p).2.2.2 = t at *
  generalize (tk x p).2.2.1 = e at *
  refine c_numI (lo := 0) (hi := r.1.1) hl hx p1 ht1 w3 v4 (fun a ha => f1 a (by omega)) (g1 3 (by decide) (by decide) (by decide) (by decide)) (by decide) (by omega) (hI := nI r.1.1 - 1) (by rw [show (1 : Int32) = nI 1 from rfl, i_s (by omega) (by decide)]; rfl) (fun hn V2 f2 g2 u4 u5 u7 => ?_)
  have p2 := (tk_le x e p1).2.2.1
  have hn2 : (tk x e).2.2.2 < r.1.1 := by
    unfold nrm at hn
    simp only [Bool.and_eq_true, decide_eq_true_eq] at hn
    exact hn.2
  have fr : ∀ a, a ≠ 10 → V2 a = V a := fun a ha => by rw [f2 a ha, f1 a ha]
  have gr : ∀ j, j ≠ 4 → j ≠ 5 → j ≠ 6 → j ≠ 7 → V2 10 j = V 10 j := fun j j1 j2 j3 j4 => by rw [g2 j j1 j2 j3 j4, g1 j j1 j2 j3 j4]
  rw [u7]
  generalize ho2 : (tk x e).2.2.2 = o at *
  have bad : ∃ b V3, some ((0 : Int32), V2) = some (b, V3) ∧ cOut x V V3 b (.inl (tk x e).2.1) := ⟨0, V2, rfl, fun a ha => fr a (by omega), gr 3 (by decide) (by decide) (by decide) (by decide), rfl, u5⟩
  by_cases c1 : o = t
  · rw [if_pos (by rw [c1]), if_pos (Or.inl c1)]
    exact bad
  · have hbt := ho.2.1.2.2.2.2.2.1 t (by omega)
    have hbo := ho.2.1.2.2.2.2.2.1 o (by omega)
    have e18 : ∀ u, u < 6 → V2 18 u = nI (r.2.1.2.2.1 u) := fun u hu => by rw [fr 18 (by decide)]; exact (r7 u hu).2.2
    have eb : f_X4_isBarred_14 (nI t) (nI o) V2 = some (bI ((r.2.1.2.2.1 t).testBit o), V2) := by
      unfold f_X4_isBarred_14
      rw [if_pos (x_inN (by omega) (by decide)), i_c (by omega), e18 t (by omega), b_bit _ hbt o (by omega)]
      cases (r.2.1.2.2.1 t).testBit o
      · rw [if_neg (by decide)]; rfl
      · rw [if_pos (by decide)]; rfl
    rw [if_neg (fun q => c1 (i_inj (by omega) (by omega) q)), eb, x_b2_some]
    cases hb : (r.2.1.2.2.1 t).testBit o with
    | true =>
      rw [if_neg (by decide), if_pos (Or.inr rfl)]
      exact bad
    | false =>
      have c1' : t ≠ o := fun q => c1 q.symm
      have et : f_X4_turnPair_14 (nI t) (nI o) V2 = some (x_up (x_up V2 18 t (nI (r.2.1.2.2.1 t ^^^ 2 ^ o))) 18 o (nI (r.2.1.2.2.1 o ^^^ 2 ^ t))) := by
        unfold f_X4_turnPair_14
        rw [if_pos (x_inN (by omega) (by decide)), if_pos (x_inN (by omega) (by decide)), i_c (by omega), i_c (by omega), e18 t (by omega), b_xor' _ hbt o (by omega), up_k c1, e18 o (by omega), b_xor' _ hbo t (by omega)]
      rw [if_pos bI_f, et, x_b1_some, if_neg (by rintro (q | q); exact c1 q; cases q)]
      refine c_endI hl p2 (V := x_up (x_up V2 18 t (nI (r.2.1.2.2.1 t ^^^ 2 ^ o))) 18 o (nI (r.2.1.2.2.1 o ^^^ 2 ^ t))) (ht.cg (by rw [up_a (by decide), up_a (by decide), fr 0 (by decide)]) (by rw [up_a (by decide), up_a (by decide), fr 1 (by decide)])) (by rw [up_a (by decide), up_a (by decide), gr 3 (by decide) (by decide) (by decide) (by decide)]; exact h3) (by rw [up_a (by decide), up_a (by decide)]; exact u4) ?_ (fun a ha => by rw [up_a (by omega), up_a (by omega), fr a (by omega)]) (by rw [up_a (by decide), up_a (by decide), gr 3 (by decide) (by decide) (by decide) (by decide)])
      refine ⟨?_, ?_, ?_, fun u hu => ?_, fun q hq => ?_, fun j hj => ?_, fun u hu => ?_, ?_, ?_, ?_⟩
      · rw [up_a (by decide), up_a (by decide), fr 11 (by decide)]; exact r1
      · rw [up_a (by decide), up_a (by decide), fr 11 (by decide)]; exact r2
      · rw [up_a (by decide), up_a (by decide), fr 11 (by decide)]; exact r3
      · rw [up_a (by decide), up_a (by decide), fr 12 (by decide)]; exact r4 u hu
      · rw [up_a (by decide), up_a (by decide), fr 13 (by decide)]; exact r5 q hq
      · rw [up_a (by decide), up_a (by decide), fr 15 (by decide)]; exact r6 j hj
      · obtain ⟨s1, s2, s3⟩ := r7 u hu
        refine ⟨by rw [up_a (by decide), up_a (by decide), fr 16 (by decide)]; exact s1, by rw [up_a (by decide), up_a (by decide), fr 17 (by decide)]; exact s2, ?_⟩
        show _ = nI (if u = t then r.2.1.2.2.1 t ^^^ 2 ^ o else if u = o then r.2.1.2.2.1 o ^^^ 2 ^ t else r.2.1.2.2.1 u)
        by_cases q1 : u = t
        · rw [if_pos q1, q1, up_k c1', up_eq]
        · rw [if_neg q1]
          by_cases q2 : u = o
          · rw [if_pos q2, q2, up_eq]
          · rw [if_neg q2, up_k q2, up_k q1]; exact e18 u hu
      · rw [up_a (by decide), up_a (by decide), fr 14 (by decide)]; exact r8
      · rw [up_a (by decide), up_a (by decide), gr 8 (by decide) (by decide) (by decide) (by decide)]; exact r9
      · rw [up_a (by decide), up_a (by decide), gr 9 (by decide) (by decide) (by decide) (by decide)]; exact r10
end CL
