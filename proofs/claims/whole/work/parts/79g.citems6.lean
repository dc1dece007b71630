section CN2
variable {x : List Int32}
theorem c_pLl (hl : x.length ≤ 100) (hx : ∀ c ∈ x, 0 ≤ c.toInt ∧ c.toInt ≤ 255) {V0 : xV} : ∀ (m i n p : Nat) (V : xV) (r : rS), m + i = 4 → m < n → p ≤ x.length → cTx V x → V 10 3 = nI x.length → V 10 4 = nI p → cRs V r → i ≤ r.1.2.1 → (∀ a, a < 10 ∨ 18 < a → V a = V0 a) → V 10 3 = V0 10 3 → ∃ b V2, f_X1_readLights_L26 n (fun l1_18 V19 => x_b2 (f_X1_nextIsEnd V19) (fun x22 V21 => if x22 = 0 ∨ x22 = 1 then some (x22, V21) else none)) (nI i) V = some (b, V2) ∧ cOut x V0 V2 b (pLl x r m i p) := by
  intro m
  induction m with
  | zero =>
    intro i n p V r hm hn hp ht h3 h4 hr hi f0 f3
    obtain ⟨n, rfl⟩ : ∃ q, n = q + 1 := ⟨n - 1, by omega⟩
    obtain rfl : i = 4 := by omega
    rw [f_X1_readLights_L26, if_pos (by decide), pLl]
    exact c_endI hl hp ht h3 h4 hr f0 f3
  | succ m ih =>
    intro i n p V r hm hn hp ht h3 h4 hr hi f0 f3
    obtain ⟨n, rfl⟩ : ∃ q, n = q + 1 := ⟨n - 1, by omega⟩
    obtain ⟨V1, e, f1, f2, v4, v5, v6, v7⟩ := c_adv hl hp ht h3 h4
    have hlt := tk_le x p hp
    have fr : ∀ a, a < 10 ∨ 18 < a → V1 a = V0 a := fun a ha => by rw [f1 a (by omega), f0 a ha]
    have g3 : V1 10 3 = V0 10 3 := by rw [f2 3 (by decide) (by decide) (by decide) (by decide), f3]
    have isn := c_num1 (V := V1) (V0 := V0) (lo := 0) (hi := 31) (hI := 30) hx hp v6 v7 (by decide) (by decide) (by decide)
    have tail : ∀ (Q : Sum Nat (rS × Nat)), Q = numI x p 0 31 (fun v e => pLl x ((r.1.1, i + 1, r.1.2.2.1, r.1.2.2.2.1, updN r.1.2.2.2.2 i v), r.2) m (i + 1) e) → ∃ b V2, x_b2 (f_X1_isNumber (0 : Int32) (30 : Int32) V1) (fun x9 V8 => if x9 = 0 then (some ((0 : Int32), V8)) else (if x_in (nI i) 4 = true then (f_X1_readLights_L26 n (fun l1_18 V19 => x_b2 (f_X1_nextIsEnd V19) (fun x22 V21 => if x22 = 0 ∨ x22 = 1 then some (x22, V21) else none)) ((nI i) + (1 : Int32)) (x_up (x_up V8 13 ((nI i).toNatClampNeg) (V8 10 7)) 11 1 ((nI i) + 1))) else none)) = some (b, V2) ∧ cOut x V0 V2 b Q := by
      intro Q hQ
      rw [hQ, show f_X1_isNumber (0 : Int32) (30 : Int32) V1 = _ from isn, x_b2_some]
      unfold numI
      cases hn : nrm x p 0 31 with
      | false =>
        rw [if_pos bI_f]
        simp only [Bool.false_eq_true, if_false]
        exact ⟨0, V1, rfl, fr, g3, rfl, v5⟩
      | true =>
        have h2 : (tk x p).1 = 2 := by
          unfold nrm at hn
          simp only [Bool.and_eq_true, decide_eq_true_eq] at hn
          exact hn.1.1
        rw [if_neg (by decide), if_pos (x_inN (by omega) (by decide)), i_c (by omega), v7 h2, nI_1]
        simp only [if_true]
        obtain ⟨r1, r2, r3, r4, r5, r6, r7, r8, r9, r10⟩ := hr
        refine ih (i + 1) n _ (x_up (x_up V1 13 i (nI (tk x p).2.2.2)) 11 1 (nI (i + 1))) _ (by omega) (by omega) hlt.2.2.1 (ht.cg (by rw [up_a (by decide), up_a (by decide), f1 0 (by decide)]) (by rw [up_a (by decide), up_a (by decide), f1 1 (by decide)])) (by rw [up_a (by decide), up_a (by decide), f2 3 (by decide) (by decide) (by decide) (by decide)]; exact h3) (by rw [up_a (by decide), up_a (by decide)]; exact v4) ?_ (Nat.le_refl _) (fun a ha => by rw [up_a (by omega), up_a (by omega)]; exact fr a ha) (by rw [up_a (by decide), up_a (by decide)]; exact g3)
        refine ⟨?_, up_eq, ?_, fun t ht' => ?_, fun q hq => ?_, fun j hj => ?_, fun t ht' => ?_, ?_, ?_, ?_⟩
        · rw [up_k (by decide), up_a (by decide), f1 11 (by decide)]; exact r1
        · rw [up_k (by decide), up_a (by decide), f1 11 (by decide)]; exact r3
        · rw [up_a (by decide), up_a (by decide), f1 12 (by decide)]; exact r4 t ht'
        · have hq : q < i + 1 := hq
          rw [up_a (by decide)]
          show _ = nI (if q = i then (tk x p).2.2.2 else r.1.2.2.2.2 q)
          by_cases c : q = i
          · rw [if_pos c, c, up_eq]
          · rw [if_neg c, up_k c, f1 13 (by decide)]; exact r5 q (by omega)
        · rw [up_a (by decide), up_a (by decide), f1 15 (by decide)]; exact r6 j hj
        · rw [up_a (by decide), up_a (by decide), up_a (by decide), up_a (by decide), up_a (by decide), up_a (by decide), f1 16 (by decide), f1 17 (by decide), f1 18 (by decide)]; exact r7 t ht'
        · rw [up_a (by decide), up_a (by decide), f1 14 (by decide)]; exact r8
        · rw [up_a (by decide), up_a (by decide), f2 8 (by decide) (by decide) (by decide) (by decide)]; exact r9
        · rw [up_a (by decide), up_a (by decide), f2 9 (by decide) (by decide) (by decide) (by decide)]; exact r10
    rw [f_X1_readLights_L26, if_neg (by rw [i_le, i_n (by omega), show (4 : Int32).toInt = 4 from rfl]; omega), e, x_b1_some, v6, pLl]
    by_cases c3 : (tk x p).1 = 3
    · rw [if_pos ((kC_59 hp).mpr c3)]
      by_cases c0 : 0 < i
      · rw [if_neg (by rw [i_le, i_n (by omega), i_0]; omega), if_pos ⟨c3, c0⟩]
        exact ⟨1, V1, rfl, fr, g3, rfl, hr.cg (fun a _ _ => f1 a (by omega)) (f2 8 (by decide) (by decide) (by decide) (by decide)) (f2 9 (by decide) (by decide) (by decide) (by decide)), v4⟩
      · rw [if_pos (by rw [i_le, i_n (by omega), i_0]; omega), if_neg (fun q => c0 q.2)]
        exact tail _ rfl
    · rw [if_neg (fun h => c3 ((kC_59 hp).mp h)), if_neg (fun q => c3 q.1)]
      exact tail _ rfl
theorem c_pL {V : xV} (hl : x.length ≤ 100) (hx : ∀ c ∈ x, 0 ≤ c.toInt ∧ c.toInt ≤ 255) {s p : Nat} (hp : p ≤ x.length) (ht : cTx V x) (h3 : V 10 3 = nI x.length) (h4 : V 10 4 = nI p) (h5 : V 10 5 = nI s) {r : rS} (hr : cRs V r) (ho : okR r) : ∃ b V2, f_X1_readLights V = some (b, V2) ∧ cOut x V V2 b (pL x r s p) := by
  have hT : r.1.1 ≤ 6 := ho.1.1
  obtain ⟨r1, r2, r3, r4, r5, r6, r7, r8, r9, r10⟩ := id hr
  unfold f_X1_readLights pL
  rw [r10, r1]
  have bad : ∃ b V2, some ((0 : Int32), V) = some (b, V2) ∧ cOut x V V2 b (.inl s) := ⟨0, V, rfl, fun _ _ => rfl, rfl, rfl, h5⟩
  cases hct : r.2.2.2 with
  | true =>
    rw [if_neg (by decide), Bool.true_or, if_pos rfl]
    exact bad
  | false =>
    rw [if_pos bI_f, Bool.false_or]
    by_cases c : 0 < r.1.1
    · rw [if_neg (by rw [i_le, i_n (by omega), i_0]; omega), decide_eq_true c, if_pos rfl]
      exact bad
    · rw [if_pos (by rw [i_le, i_n (by omega), i_0]; omega), decide_eq_false c, if_neg (by decide)]
      refine c_pLl hl hx 4 0 300 p (x_up V 10 9 1) (r.1, r.2.1, r.2.2.1, true) rfl (by decide) hp (ht.cg (by rw [up_a (by decide)]) (up_a (by decide))) (by rw [up_k (by decide)]; exact h3) (by rw [up_k (by decide)]; exact h4) ?_ (Nat.zero_le _) (fun a ha => up_a (by omega)) (up_k (by decide))
      exact ⟨by rw [up_a (by decide)]; exact r1, by rw [up_a (by decide)]; exact r2, by rw [up_a (by decide)]; exact r3, fun t ht' => by rw [up_a (by decide)]; exact r4 t ht', fun q hq => by rw [up_a (by decide)]; exact r5 q hq, fun j hj => by rw [up_a (by decide)]; exact r6 j hj, fun t ht' => by rw [up_a (by decide), up_a (by decide), up_a (by decide)]; exact r7 t ht', by rw [up_a (by decide)]; exact r8, by rw [up_k (by decide)]; exact r9, up_eq⟩
end CN2
