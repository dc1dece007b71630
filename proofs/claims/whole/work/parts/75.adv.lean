section AD
variable {x : List Int32} {V : xV}
theorem c_adv (hl : x.length ≤ 100) {p : Nat} (hp : p ≤ x.length) (ht : cTx V x) (h3 : V 10 3 = nI x.length) (h4 : V 10 4 = nI p) : ∃ V', f_X1_advance V = some V' ∧ (∀ a, a ≠ 10 → V' a = V a) ∧ (∀ j, j ≠ 4 → j ≠ 5 → j ≠ 6 → j ≠ 7 → V' 10 j = V 10 j) ∧ V' 10 4 = nI (tk x p).2.2.1 ∧ V' 10 5 = nI (tk x p).2.1 ∧ V' 10 6 = kC x (tk x p) ∧ ((tk x p).1 = 2 → V' 10 7 = nI (tk x p).2.2.2) := by
  have hs1 := skp_ge x (x.length - p) p
  obtain ⟨V1, e1, v4, f1, f2⟩ := c_adv0 hl (k := fun V4 => if (V4 10 4) < (V4 10 3) then (if x_in (V4 10 4) 100 = true then (x_b2 (f_X1_isFigure (V4 1 ((V4 10 4).toNatClampNeg)) (x_up V4 10 5 (V4 10 4))) (fun x9 V8 => if x9 = 0 then (if x_in (V8 10 4) 100 = true then (x_b2 (f_X1_isSign (V8 1 ((V8 10 4).toNatClampNeg)) V8) (fun x14 V13 => if x14 = 0 then (some (x_up (x_up V13 10 6 (-3 : Int32)) 10 4 ((V13 10 4) + 1))) else (if x_in (V13 10 4) 100 = true then (some (x_up (x_up V13 10 6 (V13 1 ((V13 10 4).toNatClampNeg))) 10 4 ((V13 10 4) + 1))) else none))) else none) else (x_b1 (f_X1_advanceOverNumber V8) (fun V18 => some V18)))) else none) else (some (x_up (x_up V4 10 5 (V4 10 4)) 10 6 (-1 : Int32)))) (x.length - p) p 300 V (by omega) (by omega) ht h3 h4
  have e1 : f_X1_advance V = _ := e1
  rw [e1]
  unfold tk
  generalize skp x (x.length - p) p = s at *
  have ht1 : cTx V1 x := ht.cg (by rw [f1 0 (by decide)]) (f1 1 (by decide))
  have w3 : V1 10 3 = nI x.length := by rw [f2 3 (by decide)]; exact h3
  unfold tkS
  simp only [v4, w3]
  by_cases c1 : x.length ≤ s
  · rw [if_neg (by rw [i_lt, i_n (by omega), i_n (by omega)]; omega), if_pos c1]
    refine ⟨_, rfl, fun a ha => by rw [up_a ha, up_a ha, f1 a ha], fun j j1 j2 j3 j4 => by rw [up_k j3, up_k j2, f2 j j1], ?_, ?_, ?_, fun h => by cases h⟩
    · rw [up_k (by decide), up_k (by decide), v4]
    · rw [up_k (by decide), up_eq]
    · rw [up_eq]; rfl
  · have hc := ht1.2 s _ (chA_in (show s < x.length by omega))
    rw [if_pos (by rw [i_lt, i_n (by omega), i_n (by omega)]; omega), if_neg c1, if_pos (x_inN (by omega) (by decide)), i_c (by omega), hc, c_fig, x_b2_some]
    cases hd : dgt (chA x s) with
    | true =>
      rw [if_neg (by decide)]
      simp only [if_true]
      unfold f_X1_advanceOverNumber
      obtain ⟨V2, e2, u4, u7, g1, g2⟩ := c_num7 hl (s := s) (k := fun l1_14 V15 => if l1_14 = 0 then (some (x_up V15 10 6 (-3 : Int32))) else (if (99 : Int32) < (V15 10 7) then (some (x_up V15 10 6 (-3 : Int32))) else (some (x_up V15 10 6 (-2 : Int32))))) (x.length - s) s 0 300 (x_up (x_up V1 10 5 (nI s)) 10 7 (0 : Int32)) (by omega) (by omega) (by decide) ⟨Nat.le_refl _, fun _ => rfl, fun h => by omega, fun h => by omega⟩ (ht1.cg (by rw [up_a (by decide), up_a (by decide)]) (by rw [up_a (by decide), up_a (by decide)])) (by rw [up_k (by decide), up_k (by decide)]; exact w3) (by rw [up_k (by decide), up_k (by decide)]; exact v4) (by rw [up_k (by decide), up_eq]) up_eq
      have q9 := (numE_ge x (x.length - s) s 0 (by decide)).2.2
      have fs : fits x s s = true := by
        unfold fits
        rw [decide_eq_false (show ¬ 1 < s - s by omega), Bool.and_false]
        rfl
      rw [fs] at e2
      have e2' : f_X1_advanceOverNumber_L7 300 (fun l1_14 V15 => if l1_14 = 0 then (some (x_up V15 10 6 (-3 : Int32))) else (if (99 : Int32) < (V15 10 7) then (some (x_up V15 10 6 (-3 : Int32))) else (some (x_up V15 10 6 (-2 : Int32))))) (1 : Int32) (x_up (x_up V1 10 5 (nI s)) 10 7 (0 : Int32)) = _ := e2
      rw [e2']
      generalize numE x (x.length - s) s 0 = q at *
      have fin : ∀ c : Int32, (x_up V2 10 6 c) 10 4 = nI q.1 ∧ (x_up V2 10 6 c) 10 5 = nI s ∧ (x_up V2 10 6 c) 10 6 = c ∧ (∀ a, a ≠ 10 → x_up V2 10 6 c a = V a) ∧ (∀ j, j ≠ 4 → j ≠ 5 → j ≠ 6 → j ≠ 7 → x_up V2 10 6 c 10 j = V 10 j) := fun c => ⟨by rw [up_k (by decide), u4], by rw [up_k (by decide), g2 5 (by decide) (by decide), up_k (by decide), up_eq], up_eq, fun a ha => by rw [up_a ha, g1 a ha, up_a ha, up_a ha, f1 a ha], fun j j1 j2 j3 j4 => by rw [up_k j3, g2 j j1 j4, up_k j4, up_k j2, f2 j j1]⟩
      by_cases cF : 99 < q.2 ∨ (chA x s = 48 ∧ 1 < q.1 - s)
      · rw [if_pos cF]
        have e3 : (if bI (fits x s q.1) = 0 then some (x_up V2 10 6 (-3 : Int32)) else if (99 : Int32) < V2 10 7 then some (x_up V2 10 6 (-3 : Int32)) else some (x_up V2 10 6 (-2 : Int32))) = some (x_up V2 10 6 (-3)) := by
          cases hf : fits x s q.1 with
          | false => rw [if_pos bI_f]
          | true =>
            have : 99 < q.2 := by
              rcases cF with h | h
              · exact h
              · unfold fits at hf
                rw [decide_eq_true h.1, decide_eq_true h.2] at hf
                cases hf
            rw [if_neg (by decide), u7, if_pos (by rw [i_lt, i_n (by omega), show (99 : Int32).toInt = 99 from rfl]; omega)]
        simp only [e3, x_b1_some]
        obtain ⟨a1, a2, a3, a4, a5⟩ := fin (-3)
        exact ⟨_, rfl, a4, a5, a1, a2, a3, fun h => by cases h⟩
      · rw [if_neg cF]
        have hf : fits x s q.1 = true := by
          unfold fits
          cases h1 : decide (chA x s = 48) with
          | false => rfl
          | true =>
            cases h2 : decide (1 < q.1 - s) with
            | false => rfl
            | true => exact absurd (Or.inr ⟨of_decide_eq_true h1, of_decide_eq_true h2⟩) cF
        have hv : q.2 ≤ 99 := by omega
        simp only [hf, u7]
        rw [if_neg (by decide), if_neg (by rw [i_lt, i_n (by omega), show (99 : Int32).toInt = 99 from rfl]; omega), x_b1_some]
        obtain ⟨a1, a2, a3, a4, a5⟩ := fin (-2)
        refine ⟨_, rfl, a4, a5, a1, a2, a3, fun _ => ?_⟩
        rw [up_k (by decide), u7, Nat.min_eq_left (by omega)]
    | false =>
      have k4 : (x_up V1 10 5 (nI s)) 10 4 = nI s := by rw [up_k (by decide)]; exact v4
      have k1 : (x_up V1 10 5 (nI s)) 1 s = chA x s := by rw [up_a (by decide)]; exact hc
      rw [if_pos bI_f, k4, if_pos (x_inN (by omega) (by decide)), i_c (by omega), k1, c_sign, x_b2_some, k4, if_pos (x_inN (by omega) (by decide)), i_c (by omega), k1, nI_1]
      simp only [Bool.false_eq_true, if_false]
      have fin : ∀ c : Int32, (x_up (x_up (x_up V1 10 5 (nI s)) 10 6 c) 10 4 (nI (s + 1))) 10 4 = nI (s + 1) ∧ (x_up (x_up (x_up V1 10 5 (nI s)) 10 6 c) 10 4 (nI (s + 1))) 10 5 = nI s ∧ (x_up (x_up (x_up V1 10 5 (nI s)) 10 6 c) 10 4 (nI (s + 1))) 10 6 = c ∧ (∀ a, a ≠ 10 → (x_up (x_up (x_up V1 10 5 (nI s)) 10 6 c) 10 4 (nI (s + 1))) a = V a) ∧ (∀ j, j ≠ 4 → j ≠ 5 → j ≠ 6 → j ≠ 7 → (x_up (x_up (x_up V1 10 5 (nI s)) 10 6 c) 10 4 (nI (s + 1))) 10 j = V 10 j) := fun c => ⟨up_eq, by rw [up_k (by decide), up_k (by decide), up_eq], by rw [up_k (by decide), up_eq], fun a ha => by rw [up_a ha, up_a ha, up_a ha, f1 a ha], fun j j1 j2 j3 j4 => by rw [up_k j1, up_k j3, up_k j2, f2 j j1]⟩
      by_cases c59 : chA x s = 59
      · rw [if_pos c59, decide_eq_true c59, Bool.true_or, if_neg (by decide)]
        obtain ⟨a1, a2, a3, a4, a5⟩ := fin (chA x s)
        exact ⟨_, rfl, a4, a5, a1, a2, a3, fun h => by cases h⟩
      · rw [if_neg c59, decide_eq_false c59, Bool.false_or]
        cases hlt : isLt (chA x s) with
        | true =>
          rw [if_neg (by decide)]
          obtain ⟨a1, a2, a3, a4, a5⟩ := fin (chA x s)
          exact ⟨_, rfl, a4, a5, a1, a2, a3, fun h => by cases h⟩
        | false =>
          rw [if_pos bI_f]
          obtain ⟨a1, a2, a3, a4, a5⟩ := fin (-3)
          exact ⟨_, rfl, a4, a5, a1, a2, a3, fun h => by cases h⟩
end AD
