/-! pure runs, row by row -/
theorem x_ex_up : ∀ (n d d2 : Nat) (code : List xE) (pc : Nat) (ls st : List Value) (h : xH) (a : Option Int32 × xH), d ≤ d2 → x_ex x_nf x_sws x_mt n d code pc ls st h = some a → ∀ n2, n ≤ n2 → x_ex x_nf x_sws x_mt n2 d2 code pc ls st h = some a := by
  intro n
  induction n with
  | zero => intro d d2 code pc ls st h a _ hs; cases hs
  | succ n ih =>
    intro d d2 code pc ls st h a hd hs n2 hn
    obtain ⟨n2, rfl⟩ : ∃ k, n2 = k + 1 := ⟨n2 - 1, by omega⟩
    have hn : n ≤ n2 := by omega
    simp only [x_ex] at hs ⊢
    split at hs
    · cases hs
    · rename_i en hat
      split at hs
      · cases hs
      · rename_i hst
        exact ih _ _ _ _ _ _ _ _ hd hs n2 hn
      · exact hs
      · rename_i hst
        split at hs
        · rename_i d' nl code' hmt
          obtain ⟨d2, rfl⟩ : ∃ k, d2 = k + 1 := ⟨d2 - 1, by omega⟩
          have hd' : d' ≤ d2 := by omega
          split at hs
          · cases hs
          · rename_i r1 h1 hrun
            have e1 := ih _ _ _ _ _ _ _ _ hd' hrun n2 hn
            simp only [hmt, e1]
            split at hs
            · rename_i hok
              rw [if_pos hok]
              exact ih _ _ _ _ _ _ _ _ hd hs n2 hn
            · cases hs
        · cases hs
theorem x_Ex.up {d d2 : Nat} {code : List xE} {pc : Nat} {ls st : List Value} {V V' : xV} {r : Option Int32} (h : x_Ex d code pc ls st V r V') (hd : d ≤ d2) : x_Ex d2 code pc ls st V r V' := by
  obtain ⟨n, hn⟩ := h
  exact ⟨n, x_ex_up n d d2 _ _ _ _ _ _ hd hn n (Nat.le_refl _)⟩
theorem x_Rn.up {d d2 i : Nat} {as : List Value} {V V' : xV} {r : Option Int32} (h : x_Rn d i as V r V') (hd : d ≤ d2) : x_Rn d2 i as V r V' := by
  obtain ⟨nl, code, h1, h2⟩ := h
  exact ⟨nl, code, h1, h2.up hd⟩
/-- m steps that are neither calls nor returns -/
def x_go (code : List xE) : Nat → Nat → List Value → List Value → xH → Option xC
  | 0, pc, ls, st, h => some (pc, ls, st, h)
  | m + 1, pc, ls, st, h => match x_at code pc with
    | none => none
    | some e => match x_step x_nf x_sws e ls st h with
      | some (.inl (pc', ls', st', h')) => x_go code m pc' ls' st' h'
      | _ => none
theorem x_go_ex {d n : Nat} {code : List xE} {a : Option Int32 × xH} : ∀ (m : Nat) {pc : Nat} {ls st : List Value} {h : xH} {pc' : Nat} {ls' st' : List Value} {h' : xH}, x_go code m pc ls st h = some (pc', ls', st', h') → x_ex x_nf x_sws x_mt n d code pc' ls' st' h' = some a → x_ex x_nf x_sws x_mt (n + m) d code pc ls st h = some a := by
  intro m
  induction m with
  | zero =>
    intro pc ls st h pc' ls' st' h' hg k
    cases hg
    exact k
  | succ m ih =>
    intro pc ls st h pc' ls' st' h' hg k
    unfold x_go at hg
    split at hg
    · cases hg
    · rename_i e hat
      split at hg
      · rename_i pc1 ls1 st1 h1 hst
        show x_ex x_nf x_sws x_mt (n + m + 1) d code pc ls st h = some a
        simp only [x_ex, hat, hst]
        exact ih hg k
      · cases hg
section Q
variable {d : Nat} {code : List xE} {pc pc' : Nat} {ls st ls' st' : List Value} {V V' V2 : xV} {r : Option Int32}
theorem q_step {e : xE} (ha : x_at code pc = some e) (hs : x_step x_nf x_sws e ls st (x_S0, V) = some (.inl (pc', ls', st', (x_S0, V')))) (k : x_Ex d code pc' ls' st' V' r V2) : x_Ex d code pc ls st V r V2 := by
  obtain ⟨n, hn⟩ := k
  exact ⟨n + 1, by simp only [x_ex, ha, hs]; exact hn⟩
theorem q_ret {e : xE} (ha : x_at code pc = some e) (hs : x_step x_nf x_sws e ls st (x_S0, V) = some (.inr (.inl r))) : x_Ex d code pc ls st V r V := ⟨1, by simp only [x_ex, ha, hs]⟩
theorem q_call {e : xE} {i : Nat} {as : List Value} {r1 : Option Int32} {V1 : xV} (ha : x_at code pc = some e) (hs : x_step x_nf x_sws e ls st (x_S0, V) = some (.inr (.inr (i, as, pc', ls', st')))) (hc : x_Rn d i as V r1 V1) (k : x_Ex (d + 1) code pc' ls' (r1.toList.map Value.int ++ st') V1 r V2) : x_Ex (d + 1) code pc ls st V r V2 := by
  obtain ⟨nl, code', hm, n1, hn1⟩ := hc
  obtain ⟨n2, hn2⟩ := k
  refine ⟨max n1 n2 + 1, ?_⟩
  have e1 := x_ex_up _ _ _ _ _ _ _ _ _ (Nat.le_refl _) hn1 (max n1 n2) (Nat.le_max_left _ _)
  have e2 := x_ex_up _ _ _ _ _ _ _ _ _ (Nat.le_refl _) hn2 (max n1 n2) (Nat.le_max_right _ _)
  simp only [x_ex, ha, hs, hm, e1, true_or, if_true]
  exact e2
theorem q_go (m : Nat) (h : x_go code m pc ls st (x_S0, V) = some (pc', ls', st', (x_S0, V'))) (k : x_Ex d code pc' ls' st' V' r V2) : x_Ex d code pc ls st V r V2 := by
  obtain ⟨n, hn⟩ := k
  exact ⟨n + m, x_go_ex m h hn⟩
/-- branches -/
theorem q_icmp {x y : Int32} {b a nx : Nat} {cs v p0 : _} (ha : x_at code pc = some (p0, 7, nx, a, b, cs, v)) (kt : x_cmp b x y = true → x_Ex d code a ls st V r V2) (kf : x_cmp b x y = false → x_Ex d code nx ls st V r V2) : x_Ex d code pc ls (.int y :: .int x :: st) V r V2 := by
  by_cases h : x_cmp b x y = true
  · exact q_step (pc' := if x_cmp b x y then a else nx) ha rfl (by rw [if_pos h]; exact kt h)
  · exact q_step (pc' := if x_cmp b x y then a else nx) ha rfl (by rw [if_neg h]; exact kf (by simpa using h))
theorem q_if {x : Int32} {b a nx : Nat} {cs v p0 : _} (ha : x_at code pc = some (p0, 8, nx, a, b, cs, v)) (kt : x_cmp b x 0 = true → x_Ex d code a ls st V r V2) (kf : x_cmp b x 0 = false → x_Ex d code nx ls st V r V2) : x_Ex d code pc ls (.int x :: st) V r V2 := by
  by_cases h : x_cmp b x 0 = true
  · exact q_step (pc' := if x_cmp b x 0 then a else nx) ha rfl (by rw [if_pos h]; exact kt h)
  · exact q_step (pc' := if x_cmp b x 0 then a else nx) ha rfl (by rw [if_neg h]; exact kf (by simpa using h))
/-- arrays -/
theorem q_ald {x n : Nat} {i : Int32} {rf : List (Option Nat)} {nx a b cs p0 : Nat} {v : Int32} {op : Nat} (hop : op = 18 ∧ x_S0[x]? = some (1, n, rf) ∨ op = 20 ∧ x_S0[x]? = some (2, n, rf)) (ha : x_at code pc = some (p0, op, nx, a, b, cs, v)) (hi : x_in i n = true) (k : x_Ex d code nx ls (.int (V x i.toNatClampNeg) :: st) V r V2) : x_Ex d code pc ls (.int i :: .ref x :: st) V r V2 := by
  rcases hop with ⟨rfl, hx⟩ | ⟨rfl, hx⟩
  · exact q_step ha (by simp only [x_step, x_mem, hx, hi]; rfl) k
  · exact q_step ha (by simp only [x_step, x_mem, hx, hi]; rfl) k
theorem q_ast {x n : Nat} {i y : Int32} {rf : List (Option Nat)} {nx a b cs p0 : Nat} {v : Int32} (hx : x_S0[x]? = some (1, n, rf)) (ha : x_at code pc = some (p0, 19, nx, a, b, cs, v)) (hi : x_in i n = true) (k : x_Ex d code nx ls st (x_up V x i.toNatClampNeg y) r V2) : x_Ex d code pc ls (.int y :: .int i :: .ref x :: st) V r V2 :=
  q_step ha (by simp only [x_step, x_mem, hx, hi]; rfl) k
theorem q_zst {x n : Nat} {i y : Int32} {rf : List (Option Nat)} {nx a b cs p0 : Nat} {v : Int32} (hx : x_S0[x]? = some (2, n, rf)) (ha : x_at code pc = some (p0, 21, nx, a, b, cs, v)) (hi : x_in i n = true) (hy : y = 0 ∨ y = 1) (k : x_Ex d code nx ls st (x_up V x i.toNatClampNeg y) r V2) : x_Ex d code pc ls (.int y :: .int i :: .ref x :: st) V r V2 :=
  q_step ha (by simp only [x_step, x_mem, hx]; rw [if_pos ⟨hi, hy⟩]) k
theorem q_aald {x n y : Nat} {i : Int32} {rf : List (Option Nat)} {nx a b cs p0 : Nat} {v : Int32} (hx : x_S0[x]? = some (3, n, rf)) (ha : x_at code pc = some (p0, 22, nx, a, b, cs, v)) (hi : x_in i n = true) (hy : rf[i.toNatClampNeg]? = some (some y)) (k : x_Ex d code nx ls (.ref y :: st) V r V2) : x_Ex d code pc ls (.int i :: .ref x :: st) V r V2 :=
  q_step ha (by simp only [x_step, x_mem, hx, hi, hy]; rfl) k
theorem q_div {x y : Int32} {nx a cs p0 : Nat} {v : Int32} (ha : x_at code pc = some (p0, 6, nx, a, 9, cs, v)) (hy : ¬ y = 0) (hl : st.length ≤ 50) (k : x_Ex d code nx ls (.int (x / y) :: st) V r V2) : x_Ex d code pc ls (.int y :: .int x :: st) V r V2 :=
  q_step ha (by simp only [x_step, x_bin, hy, if_false, hl, if_true]) k
theorem q_rem {x y : Int32} {nx a cs p0 : Nat} {v : Int32} (ha : x_at code pc = some (p0, 6, nx, a, 10, cs, v)) (hy : ¬ y = 0) (hl : st.length ≤ 50) (k : x_Ex d code nx ls (.int (x - x / y * y) :: st) V r V2) : x_Ex d code pc ls (.int y :: .int x :: st) V r V2 :=
  q_step ha (by simp only [x_step, x_bin, hy, if_false, hl, if_true]) k
end Q
