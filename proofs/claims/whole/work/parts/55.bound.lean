/-! how few changes: the class's bound -/
def q_lv (d : sT) (op cp : Nat → Nat) (t : Nat) : Nat → Nat → Nat → Nat
  | 0, nx, _ => nx
  | n + 1, nx, s => if p_N d ≤ nx then nx else if (op nx).testBit t = false then nx else if cp t < s + p_lt d nx then nx else q_lv d op cp t n (nx + d.2.2.1) (s + p_lt d nx)
theorem q_lv_case (d : sT) (op cp : Nat → Nat) (t : Nat) : ∀ n nx s, ∃ i, i ≤ n ∧ q_lv d op cp t n nx s = nx + i * d.2.2.1 := by
  intro n
  induction n with
  | zero => intro nx s; exact ⟨0, Nat.le_refl _, by rw [Nat.zero_mul]; rfl⟩
  | succ n ih =>
    intro nx s
    rw [q_lv]
    split
    · exact ⟨0, by omega, by rw [Nat.zero_mul]; rfl⟩
    · split
      · exact ⟨0, by omega, by rw [Nat.zero_mul]; rfl⟩
      · split
        · exact ⟨0, by omega, by rw [Nat.zero_mul]; rfl⟩
        · obtain ⟨i, hi, e⟩ := ih (nx + d.2.2.1) (s + p_lt d nx)
          exact ⟨i + 1, by omega, by rw [e, Nat.succ_mul]; omega⟩
theorem q_lv_sum (d : sT) (op cp : Nat → Nat) (t : Nat) : ∀ n nx s s', s' ≤ s → q_lv d op cp t n nx s ≤ q_lv d op cp t n nx s' := by
  intro n
  induction n with
  | zero => intro nx s s' _; exact Nat.le_refl _
  | succ n ih =>
    intro nx s s' h
    obtain ⟨i, -, e⟩ := q_lv_case d op cp t (n + 1) nx s'
    rw [q_lv]
    split
    · omega
    · split
      · omega
      · split
        · omega
        · rename_i h1 h2 h3
          have e2 : q_lv d op cp t (n + 1) nx s' = q_lv d op cp t n (nx + d.2.2.1) (s' + p_lt d nx) := by
            rw [q_lv, if_neg h1, if_neg h2, if_neg (by omega)]
          rw [e2]
          exact ih _ _ _ (by omega)
theorem q_lv_fuel (d : sT) (op cp : Nat → Nat) (t : Nat) : ∀ n nx s, p_N d ≤ nx + n * d.2.2.1 → q_lv d op cp t (n + 1) nx s = q_lv d op cp t n nx s := by
  intro n
  induction n with
  | zero =>
    intro nx s h
    show (if p_N d ≤ nx then nx else _) = nx
    rw [if_pos (by omega)]
  | succ n ih =>
    intro nx s h
    rw [q_lv]
    conv => rhs; rw [q_lv]
    split
    · rfl
    · split
      · rfl
      · split
        · rfl
        · exact ih _ _ (by rw [Nat.succ_mul] at h; omega)
section LB
variable {d : sT} {op cp ru : Nat → Nat}
/-- what runsFrom holds -/
def q_ru (d : sT) (op cp ru : Nat → Nat) : Prop := (∀ j, p_N d ≤ j → ru j = 0) ∧ ∀ j, j < p_N d → 1 ≤ ru j ∧ ru j ≤ 1001 ∧ (∀ t, t < d.1 → (op j).testBit t = true → ru j ≤ 1 + ru (q_lv d op cp t 4 (j + d.2.2.1) (p_lt d j))) ∧ (ru j = 1001 ∨ ∃ t, t < d.1 ∧ (op j).testBit t = true ∧ ru j = 1 + ru (q_lv d op cp t 4 (j + d.2.2.1) (p_lt d j)))
theorem q_ru_le (h : q_ru d op cp ru) (j : Nat) : ru j ≤ 1001 := by
  by_cases hj : j < p_N d
  · exact (h.2 j hj).2.1
  · rw [h.1 j (by omega)]; omega
theorem p_N4 (hd : okT d) : p_N d ≤ 4 * d.2.2.1 := Nat.mul_le_mul_right _ hd.2.2.1
theorem q_mono1 (hd : okT d) (h : q_ru d op cp ru) : ∀ m j, p_N d ≤ j + m → ru (j + d.2.2.1) ≤ ru j := by
  have h4 := p_N4 hd
  have hC := hd.2.2.2.1
  intro m
  induction m with
  | zero =>
    intro j hj
    rw [h.1 j (by omega), h.1 (j + d.2.2.1) (by omega)]
    exact Nat.le_refl _
  | succ m ih =>
    intro j hj
    by_cases hjN : j < p_N d
    · rcases (h.2 j hjN).2.2.2 with e | ⟨t, ht, hb, e⟩
      · rw [e]; exact q_ru_le h _
      · have mi : ∀ i k, p_N d ≤ k + m → ru (k + i * d.2.2.1) ≤ ru k := by
          intro i
          induction i with
          | zero => intro k _; rw [Nat.zero_mul]; exact Nat.le_refl _
          | succ i ihi =>
            intro k hk
            have q1 := ihi (k + d.2.2.1) (by omega)
            have q2 := ih k hk
            rw [show k + (i + 1) * d.2.2.1 = k + d.2.2.1 + i * d.2.2.1 by rw [Nat.succ_mul]; omega]
            omega
        by_cases hn : j + d.2.2.1 < p_N d
        · by_cases c1 : (op (j + d.2.2.1)).testBit t = false
          · rw [q_lv, if_neg (by omega), if_pos c1] at e
            omega
          · by_cases c2 : cp t < p_lt d j + p_lt d (j + d.2.2.1)
            · rw [q_lv, if_neg (by omega), if_neg c1, if_pos c2] at e
              omega
            · rw [q_lv, if_neg (by omega), if_neg c1, if_neg c2, ← q_lv_fuel _ _ _ _ _ _ _ (by omega)] at e
              have q := (h.2 (j + d.2.2.1) hn).2.2.1 t ht (by simpa using c1)
              obtain ⟨a, ha, e1⟩ := q_lv_case d op cp t 4 (j + d.2.2.1 + d.2.2.1) (p_lt d j + p_lt d (j + d.2.2.1))
              obtain ⟨b, hb2, e2⟩ := q_lv_case d op cp t 4 (j + d.2.2.1 + d.2.2.1) (p_lt d (j + d.2.2.1))
              have le := q_lv_sum d op cp t 4 (j + d.2.2.1 + d.2.2.1) (p_lt d j + p_lt d (j + d.2.2.1)) (p_lt d (j + d.2.2.1)) (by omega)
              rw [e1] at e le
              rw [e2] at q le
              have hab : a ≤ b := by
                by_cases hab : a ≤ b
                · exact hab
                · have : (b + 1) * d.2.2.1 ≤ a * d.2.2.1 := Nat.mul_le_mul_right _ (by omega)
                  rw [Nat.succ_mul] at this
                  omega
              have eb : b * d.2.2.1 = a * d.2.2.1 + (b - a) * d.2.2.1 := by rw [← Nat.add_mul]; congr 1; omega
              have q3 := mi (b - a) (j + d.2.2.1 + d.2.2.1 + a * d.2.2.1) (by omega)
              rw [eb, ← Nat.add_assoc] at q
              omega
        · rw [h.1 (j + d.2.2.1) (by omega)]; omega
    · rw [h.1 j (by omega), h.1 (j + d.2.2.1) (by omega)]
      exact Nat.le_refl _
theorem q_mono (hd : okT d) (h : q_ru d op cp ru) : ∀ i j, ru (j + i * d.2.2.1) ≤ ru j := by
  intro i
  induction i with
  | zero => intro j; rw [Nat.zero_mul]; exact Nat.le_refl _
  | succ i ih =>
    intro j
    have q1 := ih (j + d.2.2.1)
    have q2 := q_mono1 hd h (p_N d) j (by omega)
    rw [show j + (i + 1) * d.2.2.1 = j + d.2.2.1 + i * d.2.2.1 by rw [Nat.succ_mul]; omega]
    omega
/-! plans as functions -/
def q_S (d : sT) (g : Nat → Nat) (t : Nat) : Nat → Nat
  | 0 => 0
  | j + 1 => q_S d g t j + (if g j = t then p_lt d j else 0)
def q_cg (d : sT) (g : Nat → Nat) : Nat → Nat → Nat
  | 0, _ => 0
  | n + 1, j => if j + d.2.2.1 < p_N d then (if g (j + d.2.2.1) = g j then 0 else 1) + q_cg d g n (j + d.2.2.1) else 0
def q_gd (d : sT) (op cp : Nat → Nat) (g : Nat → Nat) (j : Nat) : Prop := g j < d.1 ∧ (op j).testBit (g j) = true ∧ q_S d g (g j) (j + 1) ≤ cp (g j)
theorem q_S_le (d : sT) (g : Nat → Nat) (t i : Nat) : ∀ n, q_S d g t i ≤ q_S d g t (i + n) := by
  intro n
  induction n with
  | zero => exact Nat.le_refl _
  | succ n ih =>
    rw [← Nat.add_assoc, q_S]
    omega
theorem q_lowA (hd : okT d) (h : q_ru d op cp ru) {g : Nat → Nat} : ∀ n j s, j < p_N d → p_N d ≤ j + (n + 1) * d.2.2.1 → s ≤ q_S d g (g j) (j + 1) → (∀ i, j < i → i < p_N d → q_gd d op cp g i) → ru (q_lv d op cp (g j) 4 (j + d.2.2.1) s) ≤ q_cg d g n j := by
  have h4 := p_N4 hd
  have hC := hd.2.2.2.1
  intro n
  induction n with
  | zero =>
    intro j s hj hn hs hg
    obtain ⟨i, -, e⟩ := q_lv_case d op cp (g j) 4 (j + d.2.2.1) s
    rw [e, h.1 _ (by omega)]
    exact Nat.zero_le _
  | succ n ih =>
    intro j s hj hn hs hg
    rw [q_cg]
    by_cases hjc : j + d.2.2.1 < p_N d
    · rw [if_pos hjc]
      obtain ⟨g1, g2, g3⟩ := hg (j + d.2.2.1) (by omega) hjc
      have hnn : p_N d ≤ j + d.2.2.1 + (n + 1) * d.2.2.1 := by rw [Nat.succ_mul] at hn; omega
      by_cases c : g (j + d.2.2.1) = g j
      · rw [if_pos c, Nat.zero_add]
        have hm := q_S_le d g (g j) (j + 1) (d.2.2.1 - 1)
        rw [show j + 1 + (d.2.2.1 - 1) = j + d.2.2.1 by omega] at hm
        have hS : q_S d g (g j) (j + d.2.2.1 + 1) = q_S d g (g j) (j + d.2.2.1) + p_lt d (j + d.2.2.1) := by rw [q_S, if_pos c]
        rw [c] at g2 g3
        rw [q_lv, if_neg (by omega), if_neg (by simp [g2]), if_neg (by omega), ← q_lv_fuel _ _ _ _ _ _ _ (by omega)]
        have := ih (j + d.2.2.1) (s + p_lt d (j + d.2.2.1)) hjc hnn (by rw [c]; omega) (fun i hi hiN => hg i (by omega) hiN)
        rw [c] at this
        exact this
      · rw [if_neg c]
        obtain ⟨i, -, e⟩ := q_lv_case d op cp (g j) 4 (j + d.2.2.1) s
        have q1 := q_mono hd h i (j + d.2.2.1)
        have q2 := (h.2 (j + d.2.2.1) hjc).2.2.1 _ g1 g2
        have q3 := ih (j + d.2.2.1) (p_lt d (j + d.2.2.1)) hjc hnn (by rw [q_S, if_pos rfl]; omega) (fun i hi hiN => hg i (by omega) hiN)
        rw [e]
        omega
    · rw [if_neg hjc]
      obtain ⟨i, -, e⟩ := q_lv_case d op cp (g j) 4 (j + d.2.2.1) s
      rw [e, h.1 _ (by omega)]
      exact Nat.zero_le _
theorem q_lowB (hd : okT d) (h : q_ru d op cp ru) {g : Nat → Nat} (n j : Nat) (hj : j < p_N d) (hn : p_N d ≤ j + (n + 1) * d.2.2.1) (hg : ∀ i, j ≤ i → i < p_N d → q_gd d op cp g i) : ru j ≤ 1 + q_cg d g n j := by
  obtain ⟨g1, g2, g3⟩ := hg j (Nat.le_refl _) hj
  have q1 := (h.2 j hj).2.2.1 _ g1 g2
  have q2 := q_lowA hd h (g := g) n j (p_lt d j) hj hn (by rw [q_S, if_pos rfl]; omega) (fun i hi hiN => hg i (by omega) hiN)
  omega
/-! all changes behind a place -/
def q_c (d : sT) (g : Nat → Nat) (j : Nat) : Nat := if d.2.2.1 ≤ j ∧ g (j - d.2.2.1) ≠ g j then 1 else 0
def q_tc (d : sT) (g : Nat → Nat) : Nat → Nat → Nat
  | 0, _ => 0
  | n + 1, j => q_c d g j + q_tc d g n (j + 1)
theorem q_cg_fuel (hd : okT d) (g : Nat → Nat) : ∀ n j, p_N d ≤ j + (n + 1) * d.2.2.1 → q_cg d g (n + 1) j = q_cg d g n j := by
  have hC := hd.2.2.2.1
  intro n
  induction n with
  | zero =>
    intro j h
    show (if j + d.2.2.1 < p_N d then _ else 0) = 0
    rw [if_neg (by omega)]
  | succ n ih =>
    intro j h
    rw [q_cg]
    conv => rhs; rw [q_cg]
    split
    · rw [ih _ (by rw [Nat.succ_mul] at h; omega)]
    · rfl
theorem q_cg_step (hd : okT d) (g : Nat → Nat) (j : Nat) (hj : j + d.2.2.1 < p_N d) : q_cg d g 4 j = q_c d g (j + d.2.2.1) + q_cg d g 4 (j + d.2.2.1) := by
  have h4 := p_N4 hd
  rw [← q_cg_fuel hd g 4 j (by omega), q_cg, if_pos hj]
  congr 1
  simp only [q_c]
  by_cases c : g (j + d.2.2.1) = g j
  · rw [if_pos c, if_neg (by rw [Nat.add_sub_cancel, c]; simp)]
  · rw [if_neg c, if_pos ⟨by omega, by rw [Nat.add_sub_cancel]; exact fun e => c e.symm⟩]
theorem q_cg_end (g : Nat → Nat) (j : Nat) (hj : p_N d ≤ j + d.2.2.1) : q_cg d g 4 j = 0 := by
  rw [q_cg, if_neg (by omega)]
theorem q_tc1 (hd : okT d) (hC : d.2.2.1 = 1) (g : Nat → Nat) : ∀ k j, j + 1 + k = p_N d → q_tc d g k (j + 1) = q_cg d g 4 j := by
  intro k
  induction k with
  | zero => intro j h; rw [q_cg_end g j (by omega)]; rfl
  | succ k ih =>
    intro j h
    rw [q_tc, ih (j + 1) (by omega), q_cg_step hd g j (by omega), hC]
theorem q_tc2 (hd : okT d) (hC : d.2.2.1 = 2) (g : Nat → Nat) : ∀ k j, j + 2 + k = p_N d → q_tc d g k (j + 2) = q_cg d g 4 j + q_cg d g 4 (j + 1) := by
  intro k
  induction k with
  | zero => intro j h; rw [q_cg_end g j (by omega), q_cg_end g (j + 1) (by omega)]; rfl
  | succ k ih =>
    intro j h
    rw [q_tc, ih (j + 1) (by omega), q_cg_step hd g j (by omega), hC, show j + 1 + 1 = j + 2 from rfl]
    omega
theorem q_tc2' (hd : okT d) (hC : d.2.2.1 = 2) (g : Nat → Nat) (k : Nat) (h : 1 + k = p_N d) : q_tc d g k 1 = q_cg d g 4 0 + q_cg d g 4 1 := by
  have : p_N d = d.2.1 * 2 := by unfold p_N; rw [hC]
  obtain ⟨k, rfl⟩ : ∃ q, k = q + 1 := ⟨k - 1, by omega⟩
  rw [q_tc, q_tc2 hd hC g k 0 (by omega)]
  simp only [q_c]
  rw [if_neg (by omega), Nat.zero_add]
end LB
