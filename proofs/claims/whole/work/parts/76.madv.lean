section MA
variable {x : List Int32} {V : xV}
theorem chA_pos {p : Nat} (hx : ∀ c ∈ x, 0 ≤ c.toInt ∧ c.toInt ≤ 255) (h : p < x.length) : 0 ≤ (chA x p).toInt := by
  have := chA_in h
  exact (hx _ (List.mem_of_getElem? this)).1
theorem m_adv (hl : x.length ≤ 100) (hx : ∀ c ∈ x, 0 ≤ c.toInt ∧ c.toInt ≤ 255) {p : Nat} (hp : p ≤ x.length) (ht : mTx V x) (h3 : V 96 3 = nI p) : ∃ V', f_X7_advances V = some V' ∧ (∀ a, a ≠ 96 → V' a = V a) ∧ (∀ j, j ≠ 3 → j ≠ 4 → j ≠ 5 → j ≠ 6 → V' 96 j = V 96 j) ∧ V' 96 3 = nI (tk x p).2.2.1 ∧ V' 96 5 = nI (tk x p).2.1 ∧ V' 96 4 = nI (tk x p).1 ∧ ((tk x p).1 = 2 → V' 96 6 = nI (tk x p).2.2.2) ∧ ((tk x p).1 = 1 → V' 96 6 = chA x (tk x p).2.1) := by
  have hs1 := skp_ge x (x.length - p) p
  unfold f_X7_advances
  obtain ⟨V1, e1, v3, f1, f2⟩ := m_adv0 hl (k := fun V5 => x_b2 (f_X7_letterAt (V5 96 3) (x_up V5 96 5 (V5 96 3))) (fun x9 V8 => if 0 ≤ x9 then (x_b2 (f_X7_in x9 (48 : Int32) (57 : Int32) V8) (fun x13 V12 => if x13 = 0 then (if x9 = (59 : Int32) then (some (x_up (x_up (x_up V12 96 3 ((V12 96 3) + 1)) 96 6 x9) 96 4 (3 : Int32))) else (if x9 = (99 : Int32) then (some (x_up (x_up (x_up V12 96 3 ((V12 96 3) + 1)) 96 6 x9) 96 4 (1 : Int32))) else (if x9 = (108 : Int32) then (some (x_up (x_up (x_up V12 96 3 ((V12 96 3) + 1)) 96 6 x9) 96 4 (1 : Int32))) else (if x9 = (116 : Int32) then (some (x_up (x_up (x_up V12 96 3 ((V12 96 3) + 1)) 96 6 x9) 96 4 (1 : Int32))) else (if x9 = (120 : Int32) then (some (x_up (x_up (x_up V12 96 3 ((V12 96 3) + 1)) 96 6 x9) 96 4 (1 : Int32))) else (if x9 = (97 : Int32) then (some (x_up (x_up (x_up V12 96 3 ((V12 96 3) + 1)) 96 6 x9) 96 4 (1 : Int32))) else (some (x_up (x_up (x_up V12 96 3 ((V12 96 3) + 1)) 96 6 x9) 96 4 (4 : Int32))))))))) else (f_X7_advances_L71 x9 300 (fun V32 => if (99 : Int32) < (V32 96 6) then (some (x_up V32 96 4 (4 : Int32))) else (if x9 = (48 : Int32) then (if ((V32 96 3) - (V32 96 5)) ≤ (1 : Int32) then (some (x_up V32 96 4 (2 : Int32))) else (some (x_up V32 96 4 (4 : Int32)))) else (some (x_up V32 96 4 (2 : Int32)))))  (x_up V12 96 6 (0 : Int32))))) else (some (x_up V8 96 4 (0 : Int32))))) (x.length - p) p 300 V (by omega) (by omega) ht h3
  rw [e1]
  unfold tk
  generalize skp x (x.length - p) p = s at *
  have ht1 : mTx V1 x := ht.cg (f2 2 (by decide)) (f1 97 (by decide))
  have ht2 : mTx (x_up V1 96 5 (nI s)) x := ht1.cg (up_k (by decide)) (up_a (by decide))
  unfold tkS
  simp only [v3]
  rw [m_let hl ht2 (by omega), x_b2_some]
  by_cases c1 : x.length ≤ s
  · rw [chA_out c1, if_neg (by decide), if_pos c1]
    refine ⟨_, rfl, fun a ha => by rw [up_a ha, up_a ha, f1 a ha], fun j j1 j2 j3 j4 => by rw [up_k j2, up_k j3, f2 j j1], ?_, ?_, ?_, fun h => (by cases h), fun h => (by cases h)⟩
    · rw [up_k (by decide), up_k (by decide), v3]
    · rw [up_k (by decide), up_eq]
    · rw [up_eq]; rfl
  · have hpos := chA_pos hx (show s < x.length by omega)
    rw [if_neg c1, if_pos (by rw [i_le, i_0]; exact hpos), m_fig, x_b2_some]
    cases hd : dgt (chA x s) with
    | true =>
      rw [if_neg (by decide)]
      simp only [if_true]
      obtain ⟨V2, e2, u3, u6, g1, g2⟩ := m_adv71 hl (l1 := chA x s) (k := fun V32 => if (99 : Int32) < (V32 96 6) then (some (x_up V32 96 4 (4 : Int32))) else (if chA x s = (48 : Int32) then (if ((V32 96 3) - (V32 96 5)) ≤ (1 : Int32) then (some (x_up V32 96 4 (2 : Int32))) else (some (x_up V32 96 4 (4 : Int32)))) else (some (x_up V32 96 4 (2 : Int32))))) (x.length - s) s 0 300 (x_up (x_up V1 96 5 (nI s)) 96 6 (0 : Int32)) (by omega) (by omega) (by decide) (ht2.cg (up_k (by decide)) (up_a (by decide))) (by rw [up_k (by decide), up_k (by decide)]; exact v3) up_eq
      rw [e2]
      obtain ⟨q1, q2, q9⟩ := numE_ge x (x.length - s) s 0 (by decide)
      generalize numE x (x.length - s) s 0 = q at *
      have u5 : V2 96 5 = nI s := by rw [g2 5 (by decide) (by decide), up_k (by decide), up_eq]
      have fin : ∀ c : Int32, (x_up V2 96 4 c) 96 3 = nI q.1 ∧ (x_up V2 96 4 c) 96 5 = nI s ∧ (x_up V2 96 4 c) 96 4 = c ∧ (x_up V2 96 4 c) 96 6 = nI q.2 ∧ (∀ a, a ≠ 96 → x_up V2 96 4 c a = V a) ∧ (∀ j, j ≠ 3 → j ≠ 4 → j ≠ 5 → j ≠ 6 → x_up V2 96 4 c 96 j = V 96 j) := fun c => ⟨by rw [up_k (by decide), u3], by rw [up_k (by decide), u5], up_eq, by rw [up_k (by decide), u6], fun a ha => by rw [up_a ha, g1 a ha, up_a ha, up_a ha, f1 a ha], fun j j1 j2 j3 j4 => by rw [up_k j2, g2 j j1 j4, up_k j4, up_k j3, f2 j j1]⟩
      simp only [u6, u3, u5]
      by_cases c9 : 99 < q.2
      · rw [if_pos (by rw [i_lt, i_n (by omega), show (99 : Int32).toInt = 99 from rfl]; omega), if_pos (Or.inl c9)]
        obtain ⟨a1, a2, a3, a4, a5, a6⟩ := fin 4
        exact ⟨_, rfl, a5, a6, a1, a2, a3, fun h => (by cases h), fun h => (by cases h)⟩
      · rw [if_neg (by rw [i_lt, i_n (by omega), show (99 : Int32).toInt = 99 from rfl]; omega)]
        obtain ⟨a1, a2, a3, a4, a5, a6⟩ := fin 4
        obtain ⟨b1, b2, b3, b4, b5, b6⟩ := fin 2
        by_cases c48 : chA x s = 48
        · rw [if_pos c48]
          by_cases cl : 1 < q.1 - s
          · rw [if_neg (by rw [i_le, i_s (by omega) (by omega), show (1 : Int32).toInt = 1 from rfl]; omega), if_pos (Or.inr ⟨c48, cl⟩)]
            exact ⟨_, rfl, a5, a6, a1, a2, a3, fun h => (by cases h), fun h => (by cases h)⟩
          · rw [if_pos (by rw [i_le, i_s (by omega) (by omega), show (1 : Int32).toInt = 1 from rfl]; omega), if_neg (by omega)]
            exact ⟨_, rfl, b5, b6, b1, b2, b3, fun _ => b4, fun h => (by cases h)⟩
        · rw [if_neg c48, if_neg (fun h => by rcases h with h | h; exact c9 h; exact c48 h.1)]
          exact ⟨_, rfl, b5, b6, b1, b2, b3, fun _ => b4, fun h => (by cases h)⟩
    | false =>
      have k3 : (x_up V1 96 5 (nI s)) 96 3 = nI s := by rw [up_k (by decide)]; exact v3
      rw [if_pos bI_f, k3, nI_1]
      simp only [Bool.false_eq_true, if_false]
      have fin : ∀ c v : Int32, (x_up (x_up (x_up (x_up V1 96 5 (nI s)) 96 3 (nI (s + 1))) 96 6 v) 96 4 c) 96 3 = nI (s + 1) ∧ (x_up (x_up (x_up (x_up V1 96 5 (nI s)) 96 3 (nI (s + 1))) 96 6 v) 96 4 c) 96 5 = nI s ∧ (x_up (x_up (x_up (x_up V1 96 5 (nI s)) 96 3 (nI (s + 1))) 96 6 v) 96 4 c) 96 4 = c ∧ (x_up (x_up (x_up (x_up V1 96 5 (nI s)) 96 3 (nI (s + 1))) 96 6 v) 96 4 c) 96 6 = v ∧ (∀ a, a ≠ 96 → (x_up (x_up (x_up (x_up V1 96 5 (nI s)) 96 3 (nI (s + 1))) 96 6 v) 96 4 c) a = V a) ∧ (∀ j, j ≠ 3 → j ≠ 4 → j ≠ 5 → j ≠ 6 → (x_up (x_up (x_up (x_up V1 96 5 (nI s)) 96 3 (nI (s + 1))) 96 6 v) 96 4 c) 96 j = V 96 j) := fun c v => ⟨by rw [up_k (by decide), up_k (by decide), up_eq], by rw [up_k (by decide), up_k (by decide), up_k (by decide), up_eq], up_eq, by rw [up_k (by decide), up_eq], fun a ha => by rw [up_a ha, up_a ha, up_a ha, up_a ha, f1 a ha], fun j j1 j2 j3 j4 => by rw [up_k j2, up_k j4, up_k j1, up_k j3, f2 j j1]⟩
      by_cases c59 : chA x s = 59
      · rw [if_pos c59, if_pos c59]
        obtain ⟨a1, a2, a3, a4, a5, a6⟩ := fin 3 (chA x s)
        exact ⟨_, rfl, a5, a6, a1, a2, a3, fun h => (by cases h), fun h => (by cases h)⟩
      · rw [if_neg c59, if_neg c59]
        obtain ⟨a1, a2, a3, a4, a5, a6⟩ := fin 1 (chA x s)
        obtain ⟨b1, b2, b3, b4, b5, b6⟩ := fin 4 (chA x s)
        cases hlt : isLt (chA x s) with
        | true =>
          have hlt := hlt
          simp only [isLt, Bool.or_eq_true, decide_eq_true_eq] at hlt
          simp only [if_true]
          have sel : ∀ (A B : Option xV), (if chA x s = (99 : Int32) then A else (if chA x s = (108 : Int32) then A else (if chA x s = (116 : Int32) then A else (if chA x s = (120 : Int32) then A else (if chA x s = (97 : Int32) then A else B))))) = A := by
            intro A B
            rcases hlt with (((h | h) | h) | h) | h <;> rw [h] <;> rfl
          rw [sel]
          exact ⟨_, rfl, a5, a6, a1, a2, a3, fun h => (by cases h), fun _ => a4⟩
        | false =>
          have hlt := hlt
          simp only [isLt, Bool.or_eq_false_iff, decide_eq_false_iff_not] at hlt
          obtain ⟨⟨⟨⟨n1, n2⟩, n3⟩, n4⟩, n5⟩ := hlt
          simp only [Bool.false_eq_true, if_false]
          rw [if_neg n1, if_neg n2, if_neg n3, if_neg n4, if_neg n5]
          exact ⟨_, rfl, b5, b6, b1, b2, b3, fun h => (by cases h), fun h => (by cases h)⟩
end MA
