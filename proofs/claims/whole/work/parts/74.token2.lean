def fits (x : List Int32) (s p : Nat) : Bool := !(decide (chA x s = 48) && decide (1 < p - s))
def numJ (x : List Int32) (s p v : Nat) : Prop := s ≤ p ∧ (p = s → v = 0) ∧ (p = s + 1 → (v = 0 ↔ chA x s = 48)) ∧ (s < p → chA x s ≠ 48 → 0 < v)
theorem numJ_step {x : List Int32} {s p v : Nat} (h : numJ x s p v) (hd : dgt (chA x p) = true) : numJ x s (p + 1) (nxv v (chA x p)) := by
  obtain ⟨h1, h2, h3, h4⟩ := h
  obtain ⟨d1, d2, d3⟩ := dgN_ok hd
  refine ⟨by omega, fun e => by omega, fun e => ?_, fun _ hc => ?_⟩
  · obtain rfl : p = s := by omega
    rw [h2 rfl]
    simp only [nxv]
    rw [if_pos (by decide), ← d3]
    omega
  · by_cases e : p = s
    · subst e
      rw [h2 rfl]
      simp only [nxv]
      rw [if_pos (by decide)]
      have : dgN (chA x p) ≠ 0 := fun q => hc (d3.mp q)
      omega
    · have := h4 (by omega) hc
      unfold nxv
      split <;> omega
section TL
variable {x : List Int32} {V : xV}
set_option maxHeartbeats 1000000 in
theorem c_num7 (hl : x.length ≤ 100) {s : Nat} {k : Int32 → xV → Option xV} : ∀ (m p v n : Nat) (V : xV), p + m = x.length → m < n → v ≤ 999 → numJ x s p v → cTx V x → V 10 3 = nI x.length → V 10 4 = nI p → V 10 5 = nI s → V 10 7 = nI (min v 100) → ∃ V', f_X1_advanceOverNumber_L7 n k (bI (fits x s p)) V = k (bI (fits x s (numE x m p v).1)) V' ∧ V' 10 4 = nI (numE x m p v).1 ∧ V' 10 7 = nI (min (numE x m p v).2 100) ∧ (∀ a, a ≠ 10 → V' a = V a) ∧ ∀ j, j ≠ 4 → j ≠ 7 → V' 10 j = V 10 j := by
  intro m
  induction m with
  | zero =>
    intro p v n V hp hn hv hJ ht h3 h4 h5 h7
    obtain ⟨n, rfl⟩ : ∃ q, n = q + 1 := ⟨n - 1, by omega⟩
    refine ⟨V, ?_, h4, h7, fun _ _ => rfl, fun _ _ _ => rfl⟩
    rw [f_X1_advanceOverNumber_L7, h3, h4, if_pos (by rw [i_le, i_n (by omega), i_n (by omega)]; omega)]
    rfl
  | succ m ih =>
    intro p v n V hp hn hv hJ ht h3 h4 h5 h7
    obtain ⟨n, rfl⟩ : ∃ q, n = q + 1 := ⟨n - 1, by omega⟩
    have hc := ht.2 p _ (chA_in (show p < x.length by omega))
    rw [numE]
    cases hd : dgt (chA x p) with
    | false =>
      refine ⟨V, ?_, h4, h7, fun _ _ => rfl, fun _ _ _ => rfl⟩
      rw [f_X1_advanceOverNumber_L7, h3, h4, if_neg (by rw [i_le, i_n (by omega), i_n (by omega)]; omega), if_pos (x_inN (by omega) (by decide)), i_c (by omega), hc, c_fig, x_b2_some, hd, if_pos bI_f]
      rfl
    | true =>
      obtain ⟨d1, d2, d3⟩ := dgN_ok hd
      have hJ' := numJ_step hJ hd
      have hs : s ≤ p := hJ.1
      have val : (if (100 : Int32) < ((((10 : Int32) * nI (min v 100)) + chA x p) - 48) then (100 : Int32) else ((((10 : Int32) * nI (min v 100)) + chA x p) - 48)) = nI (min (nxv v (chA x p)) 100) := by
        have e : ((10 : Int32) * nI (min v 100) + chA x p) - 48 = nI (10 * min v 100 + dgN (chA x p)) := by
          conv => lhs; rw [d2]
          rw [show (10 : Int32) = nI 10 from rfl, pk_mul, nI_add, show (48 : Int32) = nI 48 from rfl, pk_sub (by omega)]
          congr 1
          omega
        rw [e]
        unfold nxv
        by_cases c : 100 < 10 * min v 100 + dgN (chA x p)
        · rw [if_pos (by rw [i_lt, i_n (by omega), show (100 : Int32).toInt = 100 from rfl]; omega)]
          show nI 100 = _
          congr 1
          split <;> omega
        · rw [if_neg (by rw [i_lt, i_n (by omega), show (100 : Int32).toInt = 100 from rfl]; omega)]
          congr 1
          split <;> omega
      have step : f_X1_advanceOverNumber_L7 (n + 1) k (bI (fits x s p)) V = f_X1_advanceOverNumber_L7 n k (bI (fits x s (p + 1))) (x_up (x_up V 10 7 (nI (min (nxv v (chA x p)) 100))) 10 4 (nI (p + 1))) := by
        rw [f_X1_advanceOverNumber_L7, h3, h4, if_neg (by rw [i_le, i_n (by omega), i_n (by omega)]; omega), if_pos (x_inN (by omega) (by decide)), i_c (by omega), hc, c_fig, x_b2_some, hd, if_neg (by decide), h4, if_pos (x_inN (by omega) (by decide)), i_c (by omega), hc, h7, val, h5, nI_1]
        cases hf : fits x s p with
        | false =>
          have : fits x s (p + 1) = false := by
            unfold fits at hf ⊢
            simp only [Bool.not_eq_false', Bool.and_eq_true, decide_eq_true_eq] at hf ⊢
            exact ⟨hf.1, by omega⟩
          rw [if_pos bI_f, this]
          rfl
        | true =>
          rw [if_neg (by decide)]
          unfold fits at hf
          by_cases e : p = s
          · have : fits x s (p + 1) = true := by
              unfold fits
              rw [decide_eq_false (show ¬ 1 < p + 1 - s by omega), Bool.and_false]
              rfl
            rw [if_pos (by rw [e]), this, if_pos (x_inN (by omega) (by decide))]
            rfl
          · rw [if_neg (fun q => e (i_inj (by omega) (by omega) q))]
            by_cases z : v = 0
            · have h48 : chA x s = 48 := by
                by_cases c48 : chA x s = 48
                · exact c48
                · have := hJ.2.2.2 (by omega) c48
                  omega
              have : fits x s (p + 1) = false := by
                unfold fits
                rw [decide_eq_true h48, decide_eq_true (show 1 < p + 1 - s by omega)]
                rfl
              rw [if_pos (by rw [i_le, i_n (by omega), i_0]; omega), this]
              rfl
            · have h48 : chA x s ≠ 48 := by
                intro c48
                by_cases e1 : p = s + 1
                · exact z ((hJ.2.2.1 e1).mpr c48)
                · rw [decide_eq_true c48, decide_eq_true (show 1 < p - s by omega)] at hf
                  cases hf
              have : fits x s (p + 1) = true := by
                unfold fits
                rw [decide_eq_false h48]
                rfl
              rw [if_neg (by rw [i_le, i_n (by omega), i_0]; omega), this, if_pos (x_inN (by omega) (by decide))]
              rfl
      obtain ⟨V', e, v4, v7, f1, f2⟩ := ih (p + 1) (nxv v (chA x p)) n (x_up (x_up V 10 7 (nI (min (nxv v (chA x p)) 100))) 10 4 (nI (p + 1))) (by omega) (by omega) (by unfold nxv; split <;> omega) hJ' (ht.cg (by rw [up_a (by decide), up_a (by decide)]) (by rw [up_a (by decide), up_a (by decide)])) (by rw [up_k (by decide), up_k (by decide)]; exact h3) up_eq (by rw [up_k (by decide), up_k (by decide)]; exact h5) (by rw [up_k (by decide), up_eq])
      exact ⟨V', step.trans e, v4, v7, fun a ha => by rw [f1 a ha, up_a ha, up_a ha], fun j j1 j2 => by rw [f2 j j1 j2, up_k j1, up_k j2]⟩
theorem c_sign (c : Int32) (V : xV) : f_X1_isSign c V = some (bI (decide (c = 59) || isLt c), V) := by
  unfold f_X1_isSign isLt
  by_cases h1 : c = 99
  · subst h1; rfl
  by_cases h2 : c = 108
  · subst h2; rfl
  by_cases h3 : c = 116
  · subst h3; rfl
  by_cases h4 : c = 120
  · subst h4; rfl
  by_cases h5 : c = 97
  · subst h5; rfl
  by_cases h6 : c = 59
  · subst h6; rfl
  rw [if_neg h1, if_neg h2, if_neg h3, if_neg h4, if_neg h5, if_neg h6, decide_eq_false h1, decide_eq_false h2, decide_eq_false h3, decide_eq_false h4, decide_eq_false h5, decide_eq_false h6]
  rfl
theorem tk_le (x : List Int32) (p : Nat) (hp : p ≤ x.length) : p ≤ (tk x p).2.1 ∧ (tk x p).2.1 ≤ (tk x p).2.2.1 ∧ (tk x p).2.2.1 ≤ x.length ∧ ((tk x p).1 = 2 → (tk x p).2.2.2 ≤ 99) ∧ ((tk x p).1 ≠ 0 → (tk x p).2.1 < (tk x p).2.2.1) ∧ (tk x p).1 ≤ 4 := by
  have h1 := skp_ge x (x.length - p) p
  unfold tk tkS
  generalize skp x (x.length - p) p = s at *
  by_cases c1 : x.length ≤ s
  · rw [if_pos c1]
    exact ⟨h1.1, Nat.le_refl _, by show s ≤ x.length; omega, fun h => (by cases h), fun h => absurd rfl h, Nat.zero_le _⟩
  · rw [if_neg c1]
    cases hd : dgt (chA x s) with
    | true =>
      simp only [if_true]
      have q := numE_ge x (x.length - s) s 0 (by decide)
      have q1 : s + 1 ≤ (numE x (x.length - s) s 0).1 := by
        obtain ⟨n, hn⟩ : ∃ n, x.length - s = n + 1 := ⟨x.length - s - 1, by omega⟩
        rw [hn, numE, hd]
        simp only [if_true]
        have h9 := (dgN_ok hd).1
        exact (numE_ge x n (s + 1) (nxv 0 (chA x s)) (by unfold nxv; split <;> omega)).1
      refine ⟨h1.1, q.1, by omega, fun h => ?_, fun _ => q1, by split <;> decide⟩
      split at h
      · cases h
      · rename_i h'
        omega
    | false =>
      simp only [Bool.false_eq_true, if_false]
      split
      · exact ⟨h1.1, Nat.le_succ _, by show s + 1 ≤ x.length; omega, fun h => (by cases h), fun _ => Nat.lt_succ_self _, (by show 3 ≤ 4; decide)⟩
      · split
        · exact ⟨h1.1, Nat.le_succ _, by show s + 1 ≤ x.length; omega, fun h => (by cases h), fun _ => Nat.lt_succ_self _, (by show 1 ≤ 4; decide)⟩
        · exact ⟨h1.1, Nat.le_succ _, by show s + 1 ≤ x.length; omega, fun h => (by cases h), fun _ => Nat.lt_succ_self _, (by show 4 ≤ 4; decide)⟩
end TL
