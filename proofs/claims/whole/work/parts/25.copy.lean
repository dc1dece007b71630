/-! takeFrom of any two Wishes, Arrays.fill of any array -/
section Q3
variable {d : Nat} {code : List xE} {pc : Nat} {ls st : List Value} {V V2 : xV} {r : Option Int32} {x ci b nx cs p0 : Nat} {v : Int32} {rf : List (Option Nat)}
theorem q_getR {y : Nat} (ha : x_at code pc = some (p0, 14, nx, ci, b, cs, v)) (hx : x_S0[x]? = some (0, ci, rf)) (hy : rf[b]? = some (some y)) (k : x_Ex d code nx ls (.ref y :: st) V r V2) : x_Ex d code pc ls (.ref x :: st) V r V2 :=
  q_step (V' := V) ha (by simp only [x_step, x_mem, hx, hy, if_true]) k
theorem q_getI (ha : x_at code pc = some (p0, 13, nx, ci, b, cs, v)) (hx : x_S0[x]? = some (0, ci, rf)) (k : x_Ex d code nx ls (.int (V x b) :: st) V r V2) : x_Ex d code pc ls (.ref x :: st) V r V2 :=
  q_step (V' := V) ha (by simp only [x_step, x_mem, hx, if_true]) k
theorem q_putI {y : Int32} (ha : x_at code pc = some (p0, 15, nx, ci, b, cs, v)) (hx : x_S0[x]? = some (0, ci, rf)) (k : x_Ex d code nx ls st (x_up V x b y) r V2) : x_Ex d code pc ls (.int y :: .ref x :: st) V r V2 :=
  q_step (V' := x_up V x b y) ha (by simp only [x_step, x_mem, hx, if_true]) k
theorem q_alen {n : Nat} (ha : x_at code pc = some (p0, 24, nx, ci, b, cs, v)) (hx : x_S0[x]? = some (1, n, rf)) (k : x_Ex d code nx ls (.int (Int32.ofNat n) :: st) V r V2) : x_Ex d code pc ls (.ref x :: st) V r V2 :=
  q_step (V' := V) ha (by simp only [x_step, x_mem, hx]; rfl) k
end Q3
def x_cW4 (V : xV) (w o : Nat) : xV := x_cpV (x_cpV (x_cpV (x_cpV V (o + 1) (w + 1) 8) (o + 2) (w + 2) 6) (o + 3) (w + 3) 6) (o + 4) (w + 4) 6
def x_cW (V : xV) (w o : Nat) : xV := x_up (x_cW4 V w o) w 4 (x_cW4 V w o o 4)
def x_tkW (w o : Nat) (V : xV) : Option xV := some (x_cW V w o)
theorem x_tkW_ok {w o : Nat} (hw : x_isW w) (ho : x_isW o) {V W : xV} (h : x_tkW w o V = some W) : x_Rn 0 45 [.ref w, .ref o] V none W := by
  refine ⟨2, kX4_takeFrom, rfl, ?_⟩
  show x_Ex 0 kX4_takeFrom 0 [.ref w, .ref o] [] V none W
  cases h
  obtain ⟨w0, w1, w2, w3, w4⟩ := x_wl_ok w hw
  obtain ⟨o0, o1, o2, o3, o4⟩ := x_wl_ok o ho
  refine q_go 1 (pc' := 1) (ls' := [.ref w, .ref o]) (st' := [.ref o]) (V' := V) rfl ?_
  refine q_getR (y := o + 1) rfl o0 rfl ?_
  refine q_go 2 (pc' := 6) (ls' := [.ref w, .ref o]) (st' := [.ref w, .int 0, .ref (o + 1)]) (V' := V) rfl ?_
  refine q_getR (y := w + 1) rfl w0 rfl ?_
  refine q_go 2 (pc' := 12) (ls' := [.ref w, .ref o]) (st' := [.int 8, .int 0, .ref (w + 1), .int 0, .ref (o + 1)]) (V' := V) rfl ?_
  refine q_cpy (n := 8) rfl o1 w1 (by decide) (by decide) (by decide) (by decide) ?_
  generalize hV1 : x_cpV V (o + 1) (w + 1) (8 : Int32).toNatClampNeg = V1
  refine q_go 1 (pc' := 16) (ls' := [.ref w, .ref o]) (st' := [.ref o]) (V' := V1) rfl ?_
  refine q_getR (y := o + 2) rfl o0 rfl ?_
  refine q_go 2 (pc' := 21) (ls' := [.ref w, .ref o]) (st' := [.ref w, .int 0, .ref (o + 2)]) (V' := V1) rfl ?_
  refine q_getR (y := w + 2) rfl w0 rfl ?_
  refine q_go 2 (pc' := 27) (ls' := [.ref w, .ref o]) (st' := [.int 6, .int 0, .ref (w + 2), .int 0, .ref (o + 2)]) (V' := V1) rfl ?_
  refine q_cpy (n := 6) rfl o2 w2 (by decide) (by decide) (by decide) (by decide) ?_
  generalize hV2 : x_cpV V1 (o + 2) (w + 2) (6 : Int32).toNatClampNeg = V2
  refine q_go 1 (pc' := 31) (ls' := [.ref w, .ref o]) (st' := [.ref o]) (V' := V2) rfl ?_
  refine q_getR (y := o + 3) rfl o0 rfl ?_
  refine q_go 2 (pc' := 36) (ls' := [.ref w, .ref o]) (st' := [.ref w, .int 0, .ref (o + 3)]) (V' := V2) rfl ?_
  refine q_getR (y := w + 3) rfl w0 rfl ?_
  refine q_go 2 (pc' := 42) (ls' := [.ref w, .ref o]) (st' := [.int 6, .int 0, .ref (w + 3), .int 0, .ref (o + 3)]) (V' := V2) rfl ?_
  refine q_cpy (n := 6) rfl o3 w3 (by decide) (by decide) (by decide) (by decide) ?_
  generalize hV3 : x_cpV V2 (o + 3) (w + 3) (6 : Int32).toNatClampNeg = V3
  refine q_go 1 (pc' := 46) (ls' := [.ref w, .ref o]) (st' := [.ref o]) (V' := V3) rfl ?_
  refine q_getR (y := o + 4) rfl o0 rfl ?_
  refine q_go 2 (pc' := 51) (ls' := [.ref w, .ref o]) (st' := [.ref w, .int 0, .ref (o + 4)]) (V' := V3) rfl ?_
  refine q_getR (y := w + 4) rfl w0 rfl ?_
  refine q_go 2 (pc' := 57) (ls' := [.ref w, .ref o]) (st' := [.int 6, .int 0, .ref (w + 4), .int 0, .ref (o + 4)]) (V' := V3) rfl ?_
  refine q_cpy (n := 6) rfl o4 w4 (by decide) (by decide) (by decide) (by decide) ?_
  have e4 : x_cpV V3 (o + 4) (w + 4) (6 : Int32).toNatClampNeg = x_cW4 V w o := by
    rw [← hV3, ← hV2, ← hV1]
    rfl
  rw [e4]
  refine q_go 2 (pc' := 62) (ls' := [.ref w, .ref o]) (st' := [.ref o, .ref w]) (V' := x_cW4 V w o) rfl ?_
  refine q_getI rfl o0 ?_
  refine q_putI rfl w0 ?_
  exact q_ret rfl rfl
def x_flV (V : xV) (a n : Nat) (v : Int32) : xV := fun b => if b = a then (fun k => if k < n then v else V b k) else V b
def x_filA (a n : Nat) (v : Int32) (V : xV) : Option xV := some (x_flV V a n v)
theorem x_in_nI {j n : Nat} (h : j < n) (hn : n < 2 ^ 31) : x_in (nI j) n = true := by
  simp only [x_in, decide_eq_true_eq]
  exact nI_in h hn
theorem x_filA_ok {a n : Nat} (ha : x_S0[a]? = some (1, n, [])) (hn : n ≤ 200) {v : Int32} {V W : xV} (h : x_filA a n v V = some W) : x_Rn 0 148 [.ref a, .int v] V none W := by
  refine ⟨4, kJ7_fill, rfl, ?_⟩
  show x_Ex 0 kJ7_fill 0 [.ref a, .int v, .long 0, .long 0] [] V none W
  cases h
  have key : ∀ m j, m + j = n → x_Ex 0 kJ7_fill 5 [.ref a, .int v, .int (nI j), .int (nI n)] [] (x_flV V a j v) none (x_flV V a n v) := by
    intro m
    induction m with
    | zero =>
      intro j hj
      obtain rfl : j = n := by omega
      refine q_go 2 (pc' := 7) (ls' := [.ref a, .int v, .int (nI j), .int (nI j)]) (st' := [.int (nI j), .int (nI j)]) (V' := x_flV V a j v) rfl ?_
      exact q_icmp rfl (fun _ => q_ret rfl rfl) (fun c => absurd c (by simp [x_cmp]))
    | succ m ih =>
      intro j hj
      refine q_go 2 (pc' := 7) (ls' := [.ref a, .int v, .int (nI j), .int (nI n)]) (st' := [.int (nI n), .int (nI j)]) (V' := x_flV V a j v) rfl ?_
      refine q_icmp rfl (fun c => absurd c (by simp [x_cmp]; exact Int32.not_le.mp (nI_ge (by omega) (by omega)))) (fun _ => ?_)
      refine q_go 3 (pc' := 13) (ls' := [.ref a, .int v, .int (nI j), .int (nI n)]) (st' := [.int v, .int (nI j), .ref a]) (V' := x_flV V a j v) rfl ?_
      refine q_ast ha rfl (x_in_nI (by omega) (by omega)) ?_
      have e1 : x_up (x_flV V a j v) a (nI j).toNatClampNeg v = x_flV V a (j + 1) v := by
        rw [nI_clamp (by omega)]
        funext b k
        by_cases hb : b = a
        · subst hb
          by_cases hk : k = j
          · subst hk; simp [x_up, x_flV, upd]
          · have : k < j ↔ k < j + 1 := by omega
            simp [x_up, x_flV, upd, hk, this]
        · simp [x_up, x_flV, hb]
      rw [e1]
      refine q_go 2 (pc' := 5) (ls' := [.ref a, .int v, .int (nI j + 1), .int (nI n)]) (st' := []) (V' := x_flV V a (j + 1) v) rfl ?_
      rw [nI_1]
      exact ih (j + 1) (by omega)
  have e0 : x_flV V a 0 v = V := by
    funext b k
    by_cases hb : b = a
    · subst hb; simp [x_flV]
    · simp [x_flV, hb]
  have k0 := key n 0 (by omega)
  rw [e0] at k0
  refine q_go 3 (pc' := 3) (ls' := [.ref a, .int v, .int 0, .long 0]) (st' := [.ref a]) (V' := V) rfl ?_
  refine q_alen rfl ha ?_
  refine q_go 1 (pc' := 5) (ls' := [.ref a, .int v, .int 0, .int (Int32.ofNat n)]) (st' := []) (V' := V) rfl ?_
  exact k0
theorem x_p2 {a b : Int32} {V W : xV} (h : some (a, V) = some (b, W)) : a = b ∧ V = W := by
  cases h
  exact ⟨rfl, rfl⟩
