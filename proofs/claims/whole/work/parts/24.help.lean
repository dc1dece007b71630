/-! helpers of the printed functions -/
def x_b2 {α : Type} (o : Option (Int32 × xV)) (k : Int32 → xV → Option α) : Option α := match o with
  | some q => k q.1 q.2
  | none => none
def x_b1 {α : Type} (o : Option xV) (k : xV → Option α) : Option α := match o with
  | some q => k q
  | none => none
theorem x_b2_eq {α : Type} {o : Option (Int32 × xV)} {k : Int32 → xV → Option α} {z : α} (h : x_b2 o k = some z) : ∃ x V, o = some (x, V) ∧ k x V = some z := by
  cases o with
  | none => cases h
  | some q => exact ⟨q.1, q.2, rfl, h⟩
theorem x_b1_eq {α : Type} {o : Option xV} {k : xV → Option α} {z : α} (h : x_b1 o k = some z) : ∃ V, o = some V ∧ k V = some z := by
  cases o with
  | none => cases h
  | some q => exact ⟨q, rfl, h⟩
theorem x_b2_some {α : Type} {k : Int32 → xV → Option α} {x : Int32} {V : xV} : x_b2 (some (x, V)) k = k x V := rfl
theorem x_b1_some {α : Type} {k : xV → Option α} {V : xV} : x_b1 (some V) k = k V := rfl
def x_cpV (V : xV) (x y n : Nat) : xV := fun q => if q = y then va_cpy (V x) (V y) 0 0 n else V q
theorem x_sw_ne {q : Int32 × Nat} {r : List (Int32 × Nat)} {x : Int32} {d : Nat} (h : ¬ q.1 = x) : x_sw (q :: r) x d = x_sw r x d := by simp [x_sw, h]
theorem x_sw_eq {q : Int32 × Nat} {r : List (Int32 × Nat)} {x : Int32} {d : Nat} (h : q.1 = x) : x_sw (q :: r) x d = q.2 := by simp [x_sw, h]
theorem x_sw_nil {x : Int32} {d : Nat} : x_sw [] x d = d := rfl
section Q2
variable {d : Nat} {code : List xE} {pc pc' : Nat} {ls st ls' st' : List Value} {V V' V2 : xV} {r : Option Int32}
theorem q_putz {x : Nat} {y : Int32} {ci b nx cs p0 : Nat} {v : Int32} {rf : List (Option Nat)} (ha : x_at code pc = some (p0, 16, nx, ci, b, cs, v)) (hx : x_S0[x]? = some (0, ci, rf)) (hy : y = 0 ∨ y = 1) (k : x_Ex d code nx ls st (x_up V x b y) r V2) : x_Ex d code pc ls (.int y :: .ref x :: st) V r V2 :=
  q_step ha (by simp only [x_step, x_mem, hx]; rw [if_pos ⟨trivial, hy⟩]) k
theorem q_retz {y : Int32} {nx a b cs p0 : Nat} {v : Int32} (ha : x_at code pc = some (p0, 27, nx, a, b, cs, v)) (hb : b = b) (hy : y = 0 ∨ y = 1) : x_Ex d code pc ls [.int y] V (some y) V :=
  q_ret ha (by simp only [x_step, x_mem]; rw [if_pos (Or.inr hy)])
theorem q_cpy {x y n0 n1 : Nat} {n : Int32} {nx a b cs p0 : Nat} {v : Int32} {rf rf2 : List (Option Nat)} (ha : x_at code pc = some (p0, 33, nx, a, b, cs, v)) (hx : x_S0[x]? = some (1, n0, rf)) (hy : x_S0[y]? = some (1, n1, rf2)) (h0 : ¬ n < 0) (h1 : n.toNatClampNeg ≤ n0) (h2 : n.toNatClampNeg ≤ n1) (hl : st.length ≤ 4) (k : x_Ex d code nx ls st (x_cpV V x y n.toNatClampNeg) r V2) : x_Ex d code pc ls (.int n :: .int 0 :: .ref y :: .int 0 :: .ref x :: st) V r V2 := by
  have z : (0 : Int32).toNatClampNeg = 0 := rfl
  refine q_step (V' := x_cpV V x y n.toNatClampNeg) ha ?_ k
  simp only [x_step, x_mem, x_new, hx, hy]
  rw [if_pos ⟨by decide, by decide, h0, by rw [z]; omega, by rw [z]; omega, hl⟩, z]
  rfl
end Q2
/-- the addresses of Wishes -/
def x_wl : List Nat := [5, 14, 21, 26, 31, 36, 41, 46, 51, 56, 61, 66, 86, 91]
def x_isW (w : Nat) : Prop := w ∈ x_wl
theorem x_wl_ok : ∀ w ∈ x_wl, x_S0[w]? = some (0, 4, [some (w + 1), some (w + 2), some (w + 3), some (w + 4), none]) ∧ x_S0[w + 1]? = some (1, 8, []) ∧ x_S0[w + 2]? = some (1, 6, []) ∧ x_S0[w + 3]? = some (1, 6, []) ∧ x_S0[w + 4]? = some (1, 6, []) := by
  have h : x_wl.all (fun w => decide (x_S0[w]? = some (0, 4, [some (w + 1), some (w + 2), some (w + 3), some (w + 4), none])) && decide (x_S0[w + 1]? = some (1, 8, [])) && decide (x_S0[w + 2]? = some (1, 6, [])) && decide (x_S0[w + 3]? = some (1, 6, [])) && decide (x_S0[w + 4]? = some (1, 6, []))) = true := by decide +kernel
  intro w hw
  have h1 := List.all_eq_true.mp h w hw
  simp only [Bool.and_eq_true, decide_eq_true_eq] at h1
  exact ⟨h1.1.1.1.1, h1.1.1.1.2, h1.1.1.2, h1.1.2, h1.2⟩
theorem x_c26 {w o p0 nx a : Nat} {v : Int32} {ls rest : List Value} {V : xV} (hw : x_isW w) (hr : rest.length ≤ 4) : x_step x_nf x_sws (p0, 26, nx, a, 2, 4, v) ls (.ref o :: .ref w :: rest) (x_S0, V) = some (.inr (.inr (a, [.ref w, .ref o], nx, ls, rest))) := by
  have h := (x_wl_ok w hw).1
  simp only [x_step, x_mem]
  rw [if_pos ⟨by simp, by simpa using hr, by rfl⟩]
  simp only [List.take, List.reverse_cons, List.reverse_nil, List.nil_append, List.cons_append, List.drop, h, if_true]
theorem x_in_lt {i : Int32} {n : Nat} (h : x_in i n = true) : i.toNatClampNeg < n := by
  have h1 := h
  simp only [x_in, decide_eq_true_eq] at h1
  omega
theorem x_aref20 {i : Int32} (h : x_in i 10 = true) : ([some 21, some 26, some 31, some 36, some 41, some 46, some 51, some 56, some 61, some 66] : List (Option Nat))[i.toNatClampNeg]? = some (some (21 + 5 * i.toNatClampNeg)) := by
  have h1 := x_in_lt h
  generalize i.toNatClampNeg = j at h1
  have : ∀ j, j < 10 → ([some 21, some 26, some 31, some 36, some 41, some 46, some 51, some 56, some 61, some 66] : List (Option Nat))[j]? = some (some (21 + 5 * j)) := by decide
  exact this j h1
theorem x_aref71 {i : Int32} (h : x_in i 2 = true) : ([some 86, some 91] : List (Option Nat))[i.toNatClampNeg]? = some (some (86 + 5 * i.toNatClampNeg)) := by
  have h1 := x_in_lt h
  generalize i.toNatClampNeg = j at h1
  have : ∀ j, j < 2 → ([some 86, some 91] : List (Option Nat))[j]? = some (some (86 + 5 * j)) := by decide
  exact this j h1
theorem x_isW20 {i : Int32} (h : x_in i 10 = true) : x_isW (21 + 5 * i.toNatClampNeg) := by
  have h1 := x_in_lt h
  generalize i.toNatClampNeg = j at h1
  have : ∀ j, j < 10 → (21 + 5 * j) ∈ x_wl := by decide
  exact this j h1
theorem x_isW71 {i : Int32} (h : x_in i 2 = true) : x_isW (86 + 5 * i.toNatClampNeg) := by
  have h1 := x_in_lt h
  generalize i.toNatClampNeg = j at h1
  have : ∀ j, j < 2 → (86 + 5 * j) ∈ x_wl := by decide
  exact this j h1
theorem x_em {p q : Prop} (hn : ¬ p → q) (hp : p → q) : q := (Classical.em p).elim hp hn
