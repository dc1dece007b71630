/-! the reference, one word ahead -/
def mLk (x : List Int32) (V : xV) (p : Nat) : Prop := V 96 3 = nI (tk x p).2.2.1 ∧ V 96 5 = nI (tk x p).2.1 ∧ V 96 4 = nI (tk x p).1 ∧ ((tk x p).1 = 2 → V 96 6 = nI (tk x p).2.2.2) ∧ ((tk x p).1 = 1 → V 96 6 = chA x (tk x p).2.1)
section MR
variable {x : List Int32} {V : xV}
theorem m_well (h : V 96 7 = -1) : f_X7_isWell V = some (1, V) := by
  unfold f_X7_isWell
  rw [h, if_neg (by decide)]
theorem m_ill {s : Nat} (hs : s < 2000) (h : V 96 7 = nI s) : f_X7_isWell V = some (0, V) := by
  unfold f_X7_isWell
  rw [h, if_pos (by rw [i_le, i_n hs, i_0]; omega)]
theorem m_tk0 (h : V 96 7 = -1) : f_X7_takes 0 V = some (0, x_up V 96 7 (V 96 5)) := by
  unfold f_X7_takes
  rw [m_well h, x_b2_some, if_neg (by decide), if_pos rfl]
theorem m_tkI {s : Nat} (hs : s < 2000) (h : V 96 7 = nI s) (a : Int32) : f_X7_takes a V = some (0, V) := by
  unfold f_X7_takes
  rw [m_ill hs h, x_b2_some, if_pos rfl]
theorem m_tk1 (hl : x.length ≤ 100) (hx : ∀ c ∈ x, 0 ≤ c.toInt ∧ c.toInt ≤ 255) {p : Nat} (hp : p ≤ x.length) (ht : mTx V x) (h7 : V 96 7 = -1) (hk : mLk x V p) : ∃ V', f_X7_takes 1 V = some (V 96 6, V') ∧ mLk x V' (tk x p).2.2.1 ∧ (∀ a, a ≠ 96 → V' a = V a) ∧ ∀ j, j ≠ 3 → j ≠ 4 → j ≠ 5 → j ≠ 6 → V' 96 j = V 96 j := by
  obtain ⟨V', e, f1, f2, v3, v5, v4, v6, v6'⟩ := m_adv hl hx (p := (tk x p).2.2.1) (tk_le x p hp).2.2.1 ht hk.1
  refine ⟨V', ?_, ⟨v3, v5, v4, v6, v6'⟩, f1, f2⟩
  unfold f_X7_takes
  rw [m_well h7, x_b2_some, if_neg (by decide), if_neg (by decide), e, x_b1_some]
theorem m_nrm (hl : x.length ≤ 100) (hx : ∀ c ∈ x, 0 ≤ c.toInt ∧ c.toInt ≤ 255) {p : Nat} (hp : p ≤ x.length) (ht : mTx V x) (h7 : V 96 7 = -1) (hk : mLk x V p) {lo hi : Nat} (hlo : lo < 1000) (hhi : hi < 1000) {hI : Int32} (hhI : hI.toInt = (hi : Int) - 1) : (nrm x p lo hi = true → ∃ V', f_X7_number (nI lo) hI V = some (nI (tk x p).2.2.2, V') ∧ mLk x V' (tk x p).2.2.1 ∧ (∀ a, a ≠ 96 → V' a = V a) ∧ ∀ j, j ≠ 3 → j ≠ 4 → j ≠ 5 → j ≠ 6 → V' 96 j = V 96 j) ∧ (nrm x p lo hi = false → f_X7_number (nI lo) hI V = some (0, x_up V 96 7 (nI (tk x p).2.1))) := by
  obtain ⟨k3, k5, k4, k6, k6'⟩ := id hk
  have hv := (tk_le x p hp).2.2.2.1
  have hk4 := (tk_le x p hp).2.2.2.2.2
  refine ⟨fun h => ?_, fun h => ?_⟩
  · unfold nrm at h
    simp only [Bool.and_eq_true, decide_eq_true_eq] at h
    obtain ⟨⟨c2, c3⟩, c4⟩ := h
    have hv := hv c2
    obtain ⟨V', e, q1, q2, q3⟩ := m_tk1 hl hx hp ht h7 hk
    refine ⟨V', ?_, q1, q2, q3⟩
    unfold f_X7_number
    rw [if_pos (by rw [k4, c2]; rfl), k6 c2, m_inT (by rw [i_n (by omega), i_n (by omega)]; omega) (by rw [i_n (by omega), hhI]; omega), x_b2_some, if_neg (by decide), e, x_b2_some, k6 c2]
  · unfold f_X7_number
    by_cases c2 : (tk x p).1 = 2
    · have hv := hv c2
      have : ¬ (lo ≤ (tk x p).2.2.2 ∧ (tk x p).2.2.2 < hi) := by
        rintro ⟨a, b⟩
        unfold nrm at h
        rw [decide_eq_true c2, decide_eq_true a, decide_eq_true b] at h
        cases h
      rw [if_pos (by rw [k4, c2]; rfl), k6 c2, m_inF (by rw [i_n (by omega), i_n (by omega), hhI]; omega), x_b2_some, if_pos rfl, m_tk0 h7, x_b2_some, k5]
    · rw [if_neg (by rw [k4]; intro e; exact c2 (i_inj (a := (tk x p).1) (b := 2) (by omega) (by omega) e)), m_tk0 h7, x_b2_some, k5]
/-- behind a fault a number is 0 -/
theorem m_nrmI {s : Nat} (hs : s < 2000) (h : V 96 7 = nI s) (lo hI : Int32) : f_X7_number lo hI V = some (0, V) := by
  unfold f_X7_number
  by_cases c : V 96 4 = 2
  · rw [if_pos c]
    unfold f_X7_in
    by_cases c1 : V 96 6 < lo
    · rw [if_pos c1, x_b2_some, if_pos rfl, m_tkI hs h, x_b2_some]
    · rw [if_neg c1]
      by_cases c2 : hI < V 96 6
      · rw [if_pos c2, x_b2_some, if_pos rfl, m_tkI hs h, x_b2_some]
      · rw [if_neg c2, x_b2_some, if_neg (by decide), m_tkI hs h, x_b2_some]
  · rw [if_neg c, m_tkI hs h, x_b2_some]
end MR
