section CM
variable {x : List Int32}
theorem c_num1 {V V0 : xV} {p lo hi : Nat} {hI : Int32} (hx : ∀ c ∈ x, 0 ≤ c.toInt ∧ c.toInt ≤ 255) (hp : p ≤ x.length) (v6 : V 10 6 = kC x (tk x p)) (v7 : (tk x p).1 = 2 → V 10 7 = nI (tk x p).2.2.2) (hlo : lo < 1000) (hhi : hi < 1000) (hhI : hI.toInt = (hi : Int) - 1) : f_X1_isNumber (nI lo) hI V = some (bI (nrm x p lo hi), V) := by
  have hv := (tk_le x p hp).2.2.2.1
  unfold f_X1_isNumber
  rw [v6]
  unfold nrm
  by_cases c2 : (tk x p).1 = 2
  · have hv := hv c2
    rw [if_pos ((kC_2 hx hp).mpr c2), v7 c2, decide_eq_true c2, Bool.true_and]
    by_cases c3 : lo ≤ (tk x p).2.2.2
    · rw [if_neg (by rw [i_lt, i_n (by omega), i_n (by omega)]; omega), decide_eq_true c3, Bool.true_and]
      by_cases c4 : (tk x p).2.2.2 < hi
      · rw [if_neg (by rw [i_lt, i_n (by omega), hhI]; omega), decide_eq_true c4]
        rfl
      · rw [if_pos (by rw [i_lt, i_n (by omega), hhI]; omega), decide_eq_false c4]
        rfl
    · rw [if_pos (by rw [i_lt, i_n (by omega), i_n (by omega)]; omega), decide_eq_false c3]
      rfl
  · rw [if_neg (fun h => c2 ((kC_2 hx hp).mp h)), decide_eq_false c2]
    rfl
end CM
