section Inv
variable {nf : List Nat} {sws : List (List (Int32 × Nat))} {pc nx a b cs : Nat} {v : Int32} {ls st : List Value} {h : xH} {c' : xC}
theorem v_0 (hs : x_step nf sws (pc, 0, nx, a, b, cs, v) ls st h = some (.inl c')) : c' = (nx, ls, .int v :: st, h) := by
  simp only [x_step, x_mem, x_new] at hs
  (repeat' (split at hs)) <;> (try cases hs)
  all_goals exact rfl
theorem v_1 (hs : x_step nf sws (pc, 1, nx, a, b, cs, v) ls st h = some (.inl c')) : ∃ x : Int32, ls[a]? = some (.int x) ∧ c' = (nx, ls, .int x :: st, h) := by
  simp only [x_step, x_mem, x_new] at hs
  (repeat' (split at hs)) <;> (try cases hs)
  all_goals exact ⟨_, by assumption, rfl⟩
theorem v_2 (hs : x_step nf sws (pc, 2, nx, a, b, cs, v) ls st h = some (.inl c')) : ∃ x : Nat, ls[a]? = some (.ref x) ∧ c' = (nx, ls, .ref x :: st, h) := by
  simp only [x_step, x_mem, x_new] at hs
  (repeat' (split at hs)) <;> (try cases hs)
  all_goals exact ⟨_, by assumption, rfl⟩
theorem v_3 (hs : x_step nf sws (pc, 3, nx, a, b, cs, v) ls st h = some (.inl c')) : ∃ (x : Int32) (st' : List Value), st = .int x :: st' ∧ a < ls.length ∧ c' = (nx, ls.set a (.int x), st', h) := by
  simp only [x_step, x_mem, x_new] at hs
  (repeat' (split at hs)) <;> (try cases hs)
  all_goals exact ⟨_, _, rfl, by assumption, rfl⟩
theorem v_4 (hs : x_step nf sws (pc, 4, nx, a, b, cs, v) ls st h = some (.inl c')) : ∃ (x : Nat) (st' : List Value), st = .ref x :: st' ∧ a < ls.length ∧ c' = (nx, ls.set a (.ref x), st', h) := by
  simp only [x_step, x_mem, x_new] at hs
  (repeat' (split at hs)) <;> (try cases hs)
  all_goals exact ⟨_, _, rfl, by assumption, rfl⟩
theorem v_5 (hs : x_step nf sws (pc, 5, nx, a, b, cs, v) ls st h = some (.inl c')) : ∃ x : Int32, ls[a]? = some (.int x) ∧ c' = (nx, ls.set a (.int (x + v)), st, h) := by
  simp only [x_step, x_mem, x_new] at hs
  (repeat' (split at hs)) <;> (try cases hs)
  all_goals exact ⟨_, by assumption, rfl⟩
theorem v_6 (hs : x_step nf sws (pc, 6, nx, a, b, cs, v) ls st h = some (.inl c')) : ∃ (x y z : Int32) (st' : List Value), st = .int y :: .int x :: st' ∧ x_bin b x y = some z ∧ st'.length ≤ 50 ∧ c' = (nx, ls, .int z :: st', h) := by
  simp only [x_step, x_mem, x_new] at hs
  (repeat' (split at hs)) <;> (try cases hs)
  all_goals exact ⟨_, _, _, _, rfl, by assumption, by assumption, rfl⟩
theorem v_7 (hs : x_step nf sws (pc, 7, nx, a, b, cs, v) ls st h = some (.inl c')) : ∃ (x y : Int32) (st' : List Value), st = .int y :: .int x :: st' ∧ c' = (if x_cmp b x y then a else nx, ls, st', h) := by
  simp only [x_step] at hs
  split at hs
  · cases hs
    exact ⟨_, _, _, rfl, rfl⟩
  · cases hs
theorem v_8 (hs : x_step nf sws (pc, 8, nx, a, b, cs, v) ls st h = some (.inl c')) : ∃ (x : Int32) (st' : List Value), st = .int x :: st' ∧ c' = (if x_cmp b x 0 then a else nx, ls, st', h) := by
  simp only [x_step] at hs
  split at hs
  · cases hs
    exact ⟨_, _, rfl, rfl⟩
  · cases hs
theorem v_9 (hs : x_step nf sws (pc, 9, nx, a, b, cs, v) ls st h = some (.inl c')) : c' = (a, ls, st, h) := by
  simp only [x_step, x_mem, x_new] at hs
  (repeat' (split at hs)) <;> (try cases hs)
  all_goals exact rfl
theorem v_10 (hs : x_step nf sws (pc, 10, nx, a, b, cs, v) ls st h = some (.inl c')) : ∃ (x : Value) (st' : List Value), st = x :: st' ∧ x.category = 1 ∧ c' = (nx, ls, x :: x :: st', h) := by
  simp only [x_step, x_mem, x_new] at hs
  (repeat' (split at hs)) <;> (try cases hs)
  all_goals exact ⟨_, _, rfl, by assumption, rfl⟩
theorem v_11 (hs : x_step nf sws (pc, 11, nx, a, b, cs, v) ls st h = some (.inl c')) : ∃ (x y : Value) (st' : List Value), st = x :: y :: st' ∧ (x.category = 1 ∧ y.category = 1) ∧ c' = (nx, ls, x :: y :: x :: y :: st', h) := by
  simp only [x_step, x_mem, x_new] at hs
  (repeat' (split at hs)) <;> (try cases hs)
  all_goals exact ⟨_, _, _, rfl, by assumption, rfl⟩
theorem v_12 (hs : x_step nf sws (pc, 12, nx, a, b, cs, v) ls st h = some (.inl c')) : ∃ (x : Value) (st' : List Value), st = x :: st' ∧ x.category = 1 ∧ c' = (nx, ls, st', h) := by
  simp only [x_step, x_mem, x_new] at hs
  (repeat' (split at hs)) <;> (try cases hs)
  all_goals exact ⟨_, _, rfl, by assumption, rfl⟩
theorem v_13 (hs : x_step nf sws (pc, 13, nx, a, b, cs, v) ls st h = some (.inl c')) : ∃ (x : Nat) (st' : List Value) (rf : List (Option Nat)), st = .ref x :: st' ∧ h.1[x]? = some (0, a, rf) ∧ c' = (nx, ls, .int (h.2 x b) :: st', h) := by
  simp only [x_step, x_mem, x_new] at hs
  (repeat' (split at hs)) <;> (try cases hs)
  all_goals (first | exact ⟨_, _, _, rfl, by subst_vars; assumption, rfl⟩ | (subst_vars; simp_all))
theorem v_14 (hs : x_step nf sws (pc, 14, nx, a, b, cs, v) ls st h = some (.inl c')) : ∃ (x y : Nat) (st' : List Value) (rf : List (Option Nat)), st = .ref x :: st' ∧ (h.1[x]? = some (0, a, rf) ∧ rf[b]? = some (some y)) ∧ c' = (nx, ls, .ref y :: st', h) := by
  simp only [x_step, x_mem, x_new] at hs
  (repeat' (split at hs)) <;> (try cases hs)
  all_goals (subst_vars; exact ⟨_, _, _, _, rfl, ⟨by assumption, by assumption⟩, rfl⟩)
theorem v_15 (hs : x_step nf sws (pc, 15, nx, a, b, cs, v) ls st h = some (.inl c')) : ∃ (x : Nat) (y : Int32) (st' : List Value) (rf : List (Option Nat)), st = .int y :: .ref x :: st' ∧ h.1[x]? = some (0, a, rf) ∧ c' = (nx, ls, st', (h.1, x_up h.2 x b y)) := by
  simp only [x_step, x_mem, x_new] at hs
  (repeat' (split at hs)) <;> (try cases hs)
  all_goals (first | exact ⟨_, _, _, _, rfl, by subst_vars; assumption, rfl⟩ | (subst_vars; simp_all))
theorem v_16 (hs : x_step nf sws (pc, 16, nx, a, b, cs, v) ls st h = some (.inl c')) : ∃ (x : Nat) (y : Int32) (st' : List Value) (rf : List (Option Nat)), st = .int y :: .ref x :: st' ∧ (h.1[x]? = some (0, a, rf) ∧ (y = 0 ∨ y = 1)) ∧ c' = (nx, ls, st', (h.1, x_up h.2 x b y)) := by
  simp only [x_step, x_mem, x_new] at hs
  (repeat' (split at hs)) <;> (try cases hs)
  rename_i hz
  obtain ⟨rfl, hy⟩ := hz
  exact ⟨_, _, _, _, rfl, ⟨by assumption, hy⟩, rfl⟩
theorem v_17 (hs : x_step nf sws (pc, 17, nx, a, b, cs, v) ls st h = some (.inl c')) : ∃ (x y : Nat) (st' : List Value) (rf : List (Option Nat)), st = .ref y :: .ref x :: st' ∧ (h.1[x]? = some (0, a, rf) ∧ b < rf.length) ∧ c' = (nx, ls, st', (h.1.set x (0, a, rf.set b (some y)), h.2)) := by
  simp only [x_step, x_mem, x_new] at hs
  (repeat' (split at hs)) <;> (try cases hs)
  rename_i hz
  obtain ⟨rfl, hy⟩ := hz
  exact ⟨_, _, _, _, rfl, ⟨by assumption, hy⟩, rfl⟩
theorem v_18 (hs : x_step nf sws (pc, 18, nx, a, b, cs, v) ls st h = some (.inl c')) : ∃ (x n : Nat) (i : Int32) (st' : List Value) (rf : List (Option Nat)), st = .int i :: .ref x :: st' ∧ (h.1[x]? = some (1, n, rf) ∧ x_in i n = true) ∧ c' = (nx, ls, .int (h.2 x i.toNatClampNeg) :: st', h) := by
  simp only [x_step, x_mem, x_new] at hs
  (repeat' (split at hs)) <;> (try cases hs)
  all_goals (subst_vars; exact ⟨_, _, _, _, _, rfl, ⟨by assumption, by assumption⟩, rfl⟩)
theorem v_19 (hs : x_step nf sws (pc, 19, nx, a, b, cs, v) ls st h = some (.inl c')) : ∃ (x n : Nat) (i y : Int32) (st' : List Value) (rf : List (Option Nat)), st = .int y :: .int i :: .ref x :: st' ∧ (h.1[x]? = some (1, n, rf) ∧ x_in i n = true) ∧ c' = (nx, ls, st', (h.1, x_up h.2 x i.toNatClampNeg y)) := by
  simp only [x_step, x_mem, x_new] at hs
  (repeat' (split at hs)) <;> (try cases hs)
  all_goals (subst_vars; exact ⟨_, _, _, _, _, _, rfl, ⟨by assumption, by assumption⟩, rfl⟩)
theorem v_20 (hs : x_step nf sws (pc, 20, nx, a, b, cs, v) ls st h = some (.inl c')) : ∃ (x n : Nat) (i : Int32) (st' : List Value) (rf : List (Option Nat)), st = .int i :: .ref x :: st' ∧ (h.1[x]? = some (2, n, rf) ∧ x_in i n = true) ∧ c' = (nx, ls, .int (h.2 x i.toNatClampNeg) :: st', h) := by
  simp only [x_step, x_mem, x_new] at hs
  (repeat' (split at hs)) <;> (try cases hs)
  all_goals (subst_vars; exact ⟨_, _, _, _, _, rfl, ⟨by assumption, by assumption⟩, rfl⟩)
theorem v_21 (hs : x_step nf sws (pc, 21, nx, a, b, cs, v) ls st h = some (.inl c')) : ∃ (x n : Nat) (i y : Int32) (st' : List Value) (rf : List (Option Nat)), st = .int y :: .int i :: .ref x :: st' ∧ (h.1[x]? = some (2, n, rf) ∧ x_in i n = true ∧ (y = 0 ∨ y = 1)) ∧ c' = (nx, ls, st', (h.1, x_up h.2 x i.toNatClampNeg y)) := by
  simp only [x_step, x_mem, x_new] at hs
  (repeat' (split at hs)) <;> (try cases hs)
  all_goals (subst_vars; exact ⟨_, _, _, _, _, _, rfl, ⟨by assumption, by assumption⟩, rfl⟩)
theorem v_22 (hs : x_step nf sws (pc, 22, nx, a, b, cs, v) ls st h = some (.inl c')) : ∃ (x n y : Nat) (i : Int32) (st' : List Value) (rf : List (Option Nat)), st = .int i :: .ref x :: st' ∧ (h.1[x]? = some (3, n, rf) ∧ x_in i n = true ∧ rf[i.toNatClampNeg]? = some (some y)) ∧ c' = (nx, ls, .ref y :: st', h) := by
  simp only [x_step, x_mem, x_new] at hs
  (repeat' (split at hs)) <;> (try cases hs)
  all_goals (subst_vars; exact ⟨_, _, _, _, _, _, rfl, ⟨by assumption, by assumption, by assumption⟩, rfl⟩)
theorem v_23 (hs : x_step nf sws (pc, 23, nx, a, b, cs, v) ls st h = some (.inl c')) : ∃ (x n y : Nat) (i : Int32) (st' : List Value) (rf rf2 : List (Option Nat)), st = .ref y :: .int i :: .ref x :: st' ∧ (h.1[x]? = some (3, n, rf) ∧ h.1[y]? = some (0, 4, rf2) ∧ x_in i n = true ∧ i.toNatClampNeg < rf.length) ∧ c' = (nx, ls, st', (h.1.set x (3, n, rf.set i.toNatClampNeg (some y)), h.2)) := by
  simp only [x_step, x_mem, x_new] at hs
  (repeat' (split at hs)) <;> (try cases hs)
  all_goals (subst_vars; exact ⟨_, _, _, _, _, _, _, rfl, ⟨by assumption, by assumption, by assumption⟩, rfl⟩)
theorem v_24 (hs : x_step nf sws (pc, 24, nx, a, b, cs, v) ls st h = some (.inl c')) : ∃ (x n t : Nat) (st' : List Value) (rf : List (Option Nat)), st = .ref x :: st' ∧ (h.1[x]? = some (t + 1, n, rf) ∧ t < 2) ∧ c' = (nx, ls, .int (Int32.ofNat n) :: st', h) := by
  simp only [x_step, x_mem, x_new] at hs
  (repeat' (split at hs)) <;> (try cases hs)
  all_goals (subst_vars; exact ⟨_, _, _, _, _, rfl, ⟨by assumption, by assumption⟩, rfl⟩)
theorem v_25 (hs : x_step nf sws (pc, 25, nx, a, b, cs, v) ls st h = some (.inl c')) : False := by
  simp only [x_step, x_mem, x_new] at hs
  (repeat' (split at hs)) <;> cases hs
theorem v_26 (hs : x_step nf sws (pc, 26, nx, a, b, cs, v) ls st h = some (.inl c')) : False := by
  simp only [x_step, x_mem, x_new] at hs
  (repeat' (split at hs)) <;> cases hs
theorem v_27 (hs : x_step nf sws (pc, 27, nx, a, b, cs, v) ls st h = some (.inl c')) : False := by
  simp only [x_step, x_mem, x_new] at hs
  (repeat' (split at hs)) <;> cases hs
theorem v_28 (hs : x_step nf sws (pc, 28, nx, a, b, cs, v) ls st h = some (.inl c')) : False := by
  simp only [x_step, x_mem, x_new] at hs
  (repeat' (split at hs)) <;> cases hs
theorem v_29 (hs : x_step nf sws (pc, 29, nx, a, b, cs, v) ls st h = some (.inl c')) : x_rok h.1.length ls st h.1 = true ∧ c' = (nx, ls, .ref h.1.length :: st, x_push h.1 h.2 (0, a, List.replicate (nf.getD a 0) none)) := by
  simp only [x_step, x_mem, x_new] at hs
  (repeat' (split at hs)) <;> (try cases hs)
  all_goals (first | exact ⟨by assumption, rfl⟩ | (subst_vars; simp_all))
theorem v_30 (hs : x_step nf sws (pc, 30, nx, a, b, cs, v) ls st h = some (.inl c')) : ∃ (n : Int32) (st' : List Value), st = .int n :: st' ∧ (x_rok h.1.length ls st' h.1 = true ∧ ¬ n < 0 ∧ n.toNatClampNeg ≤ 1000 ∧ (b = 1 ∨ b = 2)) ∧ c' = (nx, ls, .ref h.1.length :: st', x_push h.1 h.2 (b, n.toNatClampNeg, [])) := by
  simp only [x_step, x_mem, x_new] at hs
  (repeat' (split at hs)) <;> (try cases hs)
  all_goals (first | exact ⟨_, _, rfl, by subst_vars; assumption, rfl⟩ | (subst_vars; simp_all))
theorem v_31 (hs : x_step nf sws (pc, 31, nx, a, b, cs, v) ls st h = some (.inl c')) : ∃ (n : Int32) (st' : List Value), st = .int n :: st' ∧ (x_rok h.1.length ls st' h.1 = true ∧ ¬ n < 0 ∧ n.toNatClampNeg ≤ 1000) ∧ c' = (nx, ls, .ref h.1.length :: st', x_push h.1 h.2 (3, n.toNatClampNeg, List.replicate n.toNatClampNeg none)) := by
  simp only [x_step, x_mem, x_new] at hs
  (repeat' (split at hs)) <;> (try cases hs)
  all_goals (first | exact ⟨_, _, rfl, by subst_vars; assumption, rfl⟩ | (subst_vars; simp_all))
theorem v_32 (hs : x_step nf sws (pc, 32, nx, a, b, cs, v) ls st h = some (.inl c')) : ∃ (x : Nat) (st' : List Value), st = .ref x :: st' ∧ st'.length ≤ 4 ∧ c' = (nx, ls, st', h) := by
  simp only [x_step, x_mem, x_new] at hs
  (repeat' (split at hs)) <;> (try cases hs)
  all_goals (first | exact ⟨_, _, rfl, by subst_vars; assumption, rfl⟩ | (subst_vars; simp_all))
theorem v_33 (hs : x_step nf sws (pc, 33, nx, a, b, cs, v) ls st h = some (.inl c')) : ∃ (x y n0 n1 : Nat) (sp dp n : Int32) (st' : List Value) (rf rf2 : List (Option Nat)), st = .int n :: .int dp :: .ref y :: .int sp :: .ref x :: st' ∧ (h.1[x]? = some (1, n0, rf) ∧ h.1[y]? = some (1, n1, rf2) ∧ ¬ sp < 0 ∧ ¬ dp < 0 ∧ ¬ n < 0 ∧ sp.toNatClampNeg + n.toNatClampNeg ≤ n0 ∧ dp.toNatClampNeg + n.toNatClampNeg ≤ n1 ∧ st'.length ≤ 4) ∧ c' = (nx, ls, st', (h.1, fun q => if q = y then va_cpy (h.2 x) (h.2 y) sp.toNatClampNeg dp.toNatClampNeg n.toNatClampNeg else h.2 q)) := by
  simp only [x_step, x_mem, x_new] at hs
  (repeat' (split at hs)) <;> (try cases hs)
  all_goals (subst_vars; exact ⟨_, _, _, _, _, _, _, _, _, _, rfl, ⟨by assumption, by assumption, by assumption⟩, rfl⟩)
theorem v_34 (hs : x_step nf sws (pc, 34, nx, a, b, cs, v) ls st h = some (.inl c')) : ∃ (x : Int32) (st' : List Value), st = .int x :: st' ∧ c' = (x_sw (sws.getD cs []) x a, ls, st', h) := by
  simp only [x_step, x_mem, x_new] at hs
  split at hs
  · cases hs
    exact ⟨_, _, rfl, rfl⟩
  · cases hs
theorem x_in_of {i : Int32} {n : Nat} (h : x_in i n = true) : vp_in i n := by
  have h1 := h
  simp only [x_in, decide_eq_true_eq] at h1
  exact h1
end Inv
