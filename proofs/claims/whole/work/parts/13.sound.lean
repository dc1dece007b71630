/-! returns, calls, and the whole run -/
section Fit
variable {cn pc nx a b cs : Nat} {z : Bool} {v : Int32} {ins : Instr}
theorem f_27 (h : x_fit cn z (pc, 27, nx, a, b, cs, v) ins = true) : ins = .ireturn := by
  cases ins
  case ireturn => rfl
  case newarray t => cases t <;> simp [x_fit] at h
  all_goals (exfalso; revert h; simp [x_fit])
theorem f_28 (h : x_fit cn z (pc, 28, nx, a, b, cs, v) ins = true) : ins = .return_ := by
  cases ins
  case return_ => rfl
  case newarray t => cases t <;> simp [x_fit] at h
  all_goals (exfalso; revert h; simp [x_fit])
theorem f_25 (h : x_fit cn z (pc, 25, nx, a, b, cs, v) ins = true) : ∃ i, ins = .invokestatic i ∧ x_f3 x_ML cn i a = true ∧ (x_inf[a]?).any (fun q => q.2.2.2.2.1 == 0 && q.2.2.2.2.2.2.1 == b) = true := by
  cases ins
  case invokestatic i =>
    simp only [x_fit, Bool.and_eq_true, Bool.or_eq_true, beq_iff_eq] at h
    rcases h with (⟨⟨-, h1⟩, h2⟩ | ⟨h, -⟩) | ⟨⟨h, -⟩, -⟩
    · exact ⟨i, rfl, h1, h2⟩
    · cases h
    · cases h
  case newarray t => cases t <;> simp [x_fit] at h
  all_goals (exfalso; revert h; simp [x_fit])
theorem f_26 (h : x_fit cn z (pc, 26, nx, a, b, cs, v) ins = true) : (∃ i, ins = .invokevirtual i ∧ (x_f3 x_ML cn i a = true ∨ x_f3 x_NL cn i a = true) ∧ (x_inf[a]?).any (fun q => q.2.2.2.2.1 == 1 && q.2.2.2.2.2.2.1 + 1 == b && q.2.2.2.2.2.1 == cs && decide (cs < 8)) = true) ∨ ∃ i, ins = .invokespecial i ∧ x_f3 x_ML cn i a = true ∧ (x_inf[a]?).any (fun q => q.2.2.2.2.1 == 2 && q.2.2.2.2.2.2.1 + 1 == b && q.2.2.2.2.2.1 == cs && decide (cs < 8)) = true := by
  cases ins
  case invokevirtual i =>
    simp only [x_fit, Bool.and_eq_true, Bool.or_eq_true, beq_iff_eq] at h
    exact Or.inl ⟨i, rfl, h.1.2, h.2⟩
  case invokespecial i =>
    simp only [x_fit, Bool.and_eq_true, Bool.or_eq_true, beq_iff_eq] at h
    rcases h with ⟨⟨-, h1⟩, h2⟩ | ⟨h, -⟩
    · exact Or.inr ⟨i, rfl, h1, h2⟩
    · cases h
  case newarray t => cases t <;> simp [x_fit] at h
  all_goals (exfalso; revert h; simp [x_fit])
end Fit
section Ret
variable {nf : List Nat} {sws : List (List (Int32 × Nat))} {pc nx a b cs op : Nat} {v : Int32} {ls st : List Value} {h : xH}
theorem r_ret {r : Option Int32} (hs : x_step nf sws (pc, op, nx, a, b, cs, v) ls st h = some (.inr (.inl r))) : (op = 27 ∧ ∃ y, st = [.int y] ∧ r = some y ∧ (b = 0 ∨ y = 0 ∨ y = 1)) ∨ (op = 28 ∧ st = [] ∧ r = none) := by
  simp only [x_step, x_mem, x_new] at hs
  (repeat' (split at hs)) <;> (try cases hs)
  · exact Or.inl ⟨rfl, _, rfl, rfl, by assumption⟩
  · exact Or.inr ⟨rfl, rfl, rfl⟩
theorem r_call {i pc' : Nat} {as ls' st' : List Value} (hs : x_step nf sws (pc, op, nx, a, b, cs, v) ls st h = some (.inr (.inr (i, as, pc', ls', st')))) : i = a ∧ pc' = nx ∧ ls' = ls ∧ st = as.reverse ++ st' ∧ st'.length ≤ 4 ∧ as.length = b ∧ (∀ v ∈ as, v.category = 1) ∧ (op = 25 ∨ (op = 26 ∧ ∃ (x : Nat) (as2 : List Value) (rf : List (Option Nat)), as = .ref x :: as2 ∧ h.1[x]? = some (0, cs, rf))) := by
  simp only [x_step, x_mem, x_new] at hs
  (repeat' (split at hs)) <;> (try cases hs)
  · rename_i hz
    exact ⟨rfl, rfl, rfl, by rw [List.reverse_reverse, List.take_append_drop], hz.2.1, by simp; omega, fun v hv => by have := List.all_eq_true.mp hz.2.2 v (List.mem_reverse.mp hv); simpa using this, Or.inl rfl⟩
  · rename_i hz _ x as2 he _ ci rf hq hc
    subst hc
    refine ⟨rfl, rfl, rfl, ?_, hz.2.1, ?_, fun v hv => ?_, Or.inr ⟨rfl, x, as2, rf, rfl, hq⟩⟩
    · rw [← he, List.reverse_reverse, List.take_append_drop]
    · rw [← he]; simp; omega
    · rw [← he] at hv
      have := List.all_eq_true.mp hz.2.2 v (List.mem_reverse.mp hv)
      simpa using this
end Ret
theorem x_sl_set0 {S : List xS} {V : xV} {x ci : Nat} {rf rf' : List (Option Nat)} (hq : S[x]? = some (0, ci, rf)) : x_sl (S.set x (0, ci, rf'), V) = x_sl (S, V) := x_sl_set hq rfl
theorem x_sl_set3 {S : List xS} {V : xV} {x n : Nat} {rf rf' : List (Option Nat)} (hq : S[x]? = some (3, n, rf)) : x_sl (S.set x (3, n, rf'), V) = x_sl (S, V) := x_sl_set hq rfl
section Mono
variable {nf : List Nat} {sws : List (List (Int32 × Nat))}
theorem x_step_mono {en : xE} {ls st : List Value} {h : xH} {c' : xC} (hs : x_step nf sws en ls st h = some (.inl c')) : c'.2.1.length = ls.length ∧ h.1.length ≤ c'.2.2.2.1.length ∧ x_sl h ≤ x_sl c'.2.2.2 := by
  obtain ⟨pc, op, nx, a, b, cs, v⟩ := en
  simp only [x_step, x_mem, x_new] at hs
  (repeat' (split at hs)) <;> (try cases hs)
  all_goals first
    | exact ⟨rfl, Nat.le_refl _, Nat.le_refl _⟩
    | exact ⟨by simp, Nat.le_refl _, Nat.le_refl _⟩
    | exact ⟨rfl, by simp [x_push], by rw [x_sl_push]; exact Nat.le_add_right _ _⟩
    | exact ⟨rfl, by simp, Nat.le_of_eq (x_sl_set0 (by assumption)).symm⟩
    | exact ⟨rfl, by simp, Nat.le_of_eq (x_sl_set3 (by assumption)).symm⟩
theorem x_ex_mono {mt : List (Nat × List xE)} : ∀ (n d : Nat) (code : List xE) (pc : Nat) (ls st : List Value) (h : xH) (r : Option Int32) (h' : xH), x_ex nf sws mt n d code pc ls st h = some (r, h') → h.1.length ≤ h'.1.length ∧ x_sl h ≤ x_sl h' := by
  intro n
  induction n with
  | zero => intro d code pc ls st h r h' hs; cases hs
  | succ n ih =>
    intro d code pc ls st h r h' hs
    simp only [x_ex] at hs
    split at hs
    · cases hs
    · split at hs
      · cases hs
      · rename_i hst
        have h1 := x_step_mono hst
        have h2 := ih _ _ _ _ _ _ _ _ hs
        exact ⟨Nat.le_trans h1.2.1 h2.1, Nat.le_trans h1.2.2 h2.2⟩
      · cases hs
        exact ⟨Nat.le_refl _, Nat.le_refl _⟩
      · split at hs
        · split at hs
          · cases hs
          · rename_i hst
            split at hs
            · have h1 := ih _ _ _ _ _ _ _ _ hst
              have h2 := ih _ _ _ _ _ _ _ _ hs
              exact ⟨Nat.le_trans h1.1 h2.1, Nat.le_trans h1.2 h2.2⟩
            · cases hs
        · cases hs
end Mono
