section CK
variable {x : List Int32} {V : xV}
theorem c_pA (hl : x.length ≤ 100) (hx : ∀ c ∈ x, 0 ≤ c.toInt ∧ c.toInt ≤ 255) {p : Nat} (hp : p ≤ x.length) (ht : cTx V x) (h3 : V 10 3 = nI x.length) (h4 : V 10 4 = nI p) {r : rS} (hr : cRs V r) (ho : okR r) : ∃ b V2, f_X1_readLoan V = some (b, V2) ∧ cOut x V V2 b (pA x r p) := by
  have hT : r.1.1 ≤ 6 := ho.1.1
  have hS : r.1.2.1 ≤ 4 := ho.1.2.2.1
  obtain ⟨r1, r2, r3, r4, r5, r6, r7, r8, r9, r10⟩ := id hr
  unfold f_X1_readLoan pA
  rw [r1]
  refine c_numI (lo := 0) (hi := r.1.1) hl hx hp ht h3 h4 (fun _ _ => rfl) rfl (by decide) (by omega) (hI := nI r.1.1 - 1) (by rw [show (1 : Int32) = nI 1 from rfl, i_s (by omega) (by decide)]; rfl) (fun hn V1 f1 g1 v4 v5 v7 => ?_)
  have p1 := (tk_le x p hp).2.2.1
  have hn1 : (tk x p).2.2.2 < r.1.1 := by
    unfold nrm at hn
    simp only [Bool.and_eq_true, decide_eq_true_eq] at hn
    exact hn.2
  have e11 : V1 11 1 = nI r.1.2.1 := by rw [f1 11 (by decide)]; exact r2
  have ht1 : cTx V1 x := ht.cg (by rw [f1 0 (by decide)]) (f1 1 (by decide))
  have w3 : V1 10 3 = nI x.length := by rw [g1 3 (by decide) (by decide) (by decide) (by decide)]; exact h3
  rw [e11, v7]
  generalize (tk x p).2.2.2 = t at *
  generalize (tk x p).2.2.1 = e at *
  refine c_numI (lo := 0) (hi := r.1.2.1) hl hx p1 ht1 w3 v4 (fun a ha => f1 a (by omega)) (g1 3 (by decide) (by decide) (by decide) (by decide)) (by decide) (by omega) (hI := nI r.1.2.1 - 1) (by rw [show (1 : Int32) = nI 1 from rfl, i_s (by omega) (by decide)]; rfl) (fun hn V2 f2 g2 u4 u5 u7 => ?_)
  have p2 := (tk_le x e p1).2.2.1
  have hn2 : (tk x e).2.2.2 < r.1.2.1 := by
    unfold nrm at hn
    simp only [Bool.and_eq_true, decide_eq_true_eq] at hn
    exact hn.2
  have e12 : V2 11 1 = nI r.1.2.1 := by rw [f2 11 (by decide)]; exact e11
  have ht2 : cTx V2 x := ht1.cg (by rw [f2 0 (by decide)]) (f2 1 (by decide))
  have x3 : V2 10 3 = nI x.length := by rw [g2 3 (by decide) (by decide) (by decide) (by decide)]; exact w3
  rw [e12, u7]
  generalize (tk x e).2.2.2 = f at *
  generalize (tk x e).2.2.1 = e' at *
  refine c_numI (lo := f) (hi := r.1.2.1) hl hx p2 ht2 x3 u4 (fun a ha => by rw [f2 a (by omega), f1 a (by omega)]) (by rw [g2 3 (by decide) (by decide) (by decide) (by decide), g1 3 (by decide) (by decide) (by decide) (by decide)]) (by omega) (by omega) (hI := nI r.1.2.1 - 1) (by rw [show (1 : Int32) = nI 1 from rfl, i_s (by omega) (by decide)]; rfl) (fun hn V3 f3 g3 y4 y5 y7 => ?_)
  have fr : ∀ a, a ≠ 10 → V3 a = V a := fun a ha => by rw [f3 a ha, f2 a ha, f1 a ha]
  have gr : ∀ j, j ≠ 4 → j ≠ 5 → j ≠ 6 → j ≠ 7 → V3 10 j = V 10 j := fun j j1 j2 j3 j4 => by rw [g3 j j1 j2 j3 j4, g2 j j1 j2 j3 j4, g1 j j1 j2 j3 j4]
  rw [if_pos (x_inN (by omega) (by decide)), i_c (by omega), y7]
  refine c_endI hl (tk_le x e' p2).2.2.1 (V := x_up (x_up V3 16 t (nI f)) 17 t (nI (tk x e').2.2.2)) (ht.cg (by rw [up_a (by decide), up_a (by decide), fr 0 (by decide)]) (by rw [up_a (by decide), up_a (by decide), fr 1 (by decide)])) (by rw [up_a (by decide), up_a (by decide), gr 3 (by decide) (by decide) (by decide) (by decide)]; exact h3) (by rw [up_a (by decide), up_a (by decide)]; exact y4) ?_ (fun a ha => by rw [up_a (by omega), up_a (by omega), fr a (by omega)]) (by rw [up_a (by decide), up_a (by decide), gr 3 (by decide) (by decide) (by decide) (by decide)])
  refine ⟨?_, ?_, ?_, fun u hu => ?_, fun q hq => ?_, fun j hj => ?_, fun u hu => ?_, ?_, ?_, ?_⟩
  · rw [up_a (by decide), up_a (by decide), fr 11 (by decide)]; exact r1
  · rw [up_a (by decide), up_a (by decide), fr 11 (by decide)]; exact r2
  · rw [up_a (by decide), up_a (by decide), fr 11 (by decide)]; exact r3
  · rw [up_a (by decide), up_a (by decide), fr 12 (by decide)]; exact r4 u hu
  · rw [up_a (by decide), up_a (by decide), fr 13 (by decide)]; exact r5 q hq
  · rw [up_a (by decide), up_a (by decide), fr 15 (by decide)]; exact r6 j hj
  · obtain ⟨s1, s2, s3⟩ := r7 u hu
    show _ = lF (if u = t then some (f, (tk x e').2.2.2) else r.2.1.2.1 u) ∧ _ = lT (if u = t then some (f, (tk x e').2.2.2) else r.2.1.2.1 u) ∧ _
    by_cases q : u = t
    · subst q
      rw [if_pos rfl, up_a (by decide), up_eq, up_eq, up_a (by decide), up_a (by decide), fr 18 (by decide)]
      exact ⟨rfl, rfl, s3⟩
    · rw [if_neg q, up_a (by decide), up_k q, up_k q, up_a (by decide), up_a (by decide), up_a (by decide), fr 16 (by decide), fr 17 (by decide), fr 18 (by decide)]
      exact ⟨s1, s2, s3⟩
  · rw [up_a (by decide), up_a (by decide), fr 14 (by decide)]; exact r8
  · rw [up_a (by decide), up_a (by decide), gr 8 (by decide) (by decide) (by decide) (by decide)]; exact r9
  · rw [up_a (by decide), up_a (by decide), gr 9 (by decide) (by decide) (by decide) (by decide)]; exact r10
end CK
