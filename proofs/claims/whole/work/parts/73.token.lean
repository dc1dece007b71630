/-! the words of a text -/
def chA (x : List Int32) (p : Nat) : Int32 := x.getD p (-1)
def skp (x : List Int32) : Nat → Nat → Nat
  | 0, p => p
  | n + 1, p => if chA x p = 32 then skp x n (p + 1) else p
def dgt (c : Int32) : Bool := decide (48 ≤ c) && decide (c ≤ 57)
def dgN (c : Int32) : Nat := (c - 48).toNatClampNeg
def nxv (v : Nat) (c : Int32) : Nat := if v ≤ 99 then 10 * v + dgN c else v
def numE (x : List Int32) : Nat → Nat → Nat → Nat × Nat
  | 0, p, v => (p, v)
  | n + 1, p, v => if dgt (chA x p) then numE x n (p + 1) (nxv v (chA x p)) else (p, v)
def isLt (c : Int32) : Bool := decide (c = 99) || decide (c = 108) || decide (c = 116) || decide (c = 120) || decide (c = 97)
/-- kind (0 end, 1 letter, 2 number, 3 end of an item, 4 no word), begin, behind it, number -/
def tkS (x : List Int32) (s : Nat) : Nat × Nat × Nat × Nat := if x.length ≤ s then (0, s, s, 0) else if dgt (chA x s) then (let q := numE x (x.length - s) s 0; (if 99 < q.2 ∨ (chA x s = 48 ∧ 1 < q.1 - s) then 4 else 2, s, q.1, q.2)) else if chA x s = 59 then (3, s, s + 1, 0) else if isLt (chA x s) then (1, s, s + 1, 0) else (4, s, s + 1, 0)
def tk (x : List Int32) (p : Nat) : Nat × Nat × Nat × Nat := tkS x (skp x (x.length - p) p)
theorem chA_in {x : List Int32} {p : Nat} (h : p < x.length) : x[p]? = some (chA x p) := by
  unfold chA
  rw [List.getD_eq_getElem?_getD, List.getElem?_eq_getElem h]
  rfl
theorem chA_out {x : List Int32} {p : Nat} (h : x.length ≤ p) : chA x p = -1 := by
  unfold chA
  rw [List.getD_eq_getElem?_getD, List.getElem?_eq_none h]
  rfl
theorem dgt_iff (c : Int32) : dgt c = true ↔ 48 ≤ c.toInt ∧ c.toInt ≤ 57 := by
  unfold dgt
  rw [Bool.and_eq_true, decide_eq_true_eq, decide_eq_true_eq, i_le, i_le]
  exact Iff.rfl
theorem dgN_ok {c : Int32} (h : dgt c = true) : dgN c ≤ 9 ∧ c = nI (48 + dgN c) ∧ (dgN c = 0 ↔ c = 48) := by
  rw [dgt_iff] at h
  obtain ⟨n, hn, rfl⟩ : ∃ n, n < 100 ∧ c = nI n := by
    rcases i_arg c (n := 100) (by decide) with h' | h'
    · exact h'
    · omega
  rw [i_n (by omega)] at h
  have key : ∀ n, n < 58 → 48 ≤ n → dgN (nI n) = n - 48 := by decide +kernel
  have e := key n (by omega) (by omega)
  rw [e]
  refine ⟨by omega, by congr 1; omega, ⟨fun q => by rw [show n = 48 by omega]; rfl, fun q => ?_⟩⟩
  have := i_inj (a := n) (b := 48) (by omega) (by omega) q
  omega
theorem skp_ge (x : List Int32) : ∀ n p, p ≤ skp x n p ∧ skp x n p ≤ p + n := by
  intro n
  induction n with
  | zero => intro p; exact ⟨Nat.le_refl _, Nat.le_refl _⟩
  | succ n ih =>
    intro p
    rw [skp]
    split
    · have := ih (p + 1); omega
    · omega
theorem numE_ge (x : List Int32) : ∀ n p v, v ≤ 999 → p ≤ (numE x n p v).1 ∧ (numE x n p v).1 ≤ p + n ∧ (numE x n p v).2 ≤ 999 := by
  intro n
  induction n with
  | zero => intro p v hv; exact ⟨Nat.le_refl _, Nat.le_refl _, hv⟩
  | succ n ih =>
    intro p v hv
    rw [numE]
    split
    · rename_i hd
      have h9 := (dgN_ok hd).1
      have := ih (p + 1) (nxv v (chA x p)) (by unfold nxv; split <;> omega)
      omega
    · exact ⟨Nat.le_refl _, by omega, hv⟩
section TK
variable {x : List Int32} {V : xV}
def kC (x : List Int32) (t : Nat × Nat × Nat × Nat) : Int32 := if t.1 = 0 then -1 else if t.1 = 2 then -2 else if t.1 = 4 then -3 else chA x t.2.1
theorem c_fig (c : Int32) (V : xV) : f_X1_isFigure c V = some (bI (dgt c), V) := by
  unfold f_X1_isFigure dgt
  by_cases h1 : c < 48
  · rw [if_pos h1]
    have : decide (48 ≤ c) = false := decide_eq_false (by rw [i_lt] at h1; rw [i_le]; omega)
    rw [this]; rfl
  · have : decide (48 ≤ c) = true := decide_eq_true (by rw [i_lt] at h1; rw [i_le]; omega)
    rw [if_neg h1, this]
    by_cases h2 : 57 < c
    · rw [if_pos h2]
      have : decide (c ≤ 57) = false := decide_eq_false (by rw [i_lt] at h2; rw [i_le]; omega)
      rw [this]; rfl
    · rw [if_neg h2]
      have : decide (c ≤ 57) = true := decide_eq_true (by rw [i_lt] at h2; rw [i_le]; omega)
      rw [this]; rfl
theorem m_fig (c : Int32) (V : xV) : f_X7_in c 48 57 V = some (bI (dgt c), V) := c_fig c V
theorem c_adv0 (hl : x.length ≤ 100) {k : xV → Option xV} : ∀ (m p n : Nat) (V : xV), p + m = x.length → m < n → cTx V x → V 10 3 = nI x.length → V 10 4 = nI p → ∃ V', f_X1_advance_L0 n k V = k V' ∧ V' 10 4 = nI (skp x m p) ∧ (∀ a, a ≠ 10 → V' a = V a) ∧ ∀ j, j ≠ 4 → V' 10 j = V 10 j := by
  intro m
  induction m with
  | zero =>
    intro p n V hp hn ht h3 h4
    obtain ⟨n, rfl⟩ : ∃ q, n = q + 1 := ⟨n - 1, by omega⟩
    refine ⟨V, ?_, h4, fun _ _ => rfl, fun _ _ => rfl⟩
    rw [f_X1_advance_L0, h3, h4, if_pos (by rw [i_le, i_n (by omega), i_n (by omega)]; omega)]
  | succ m ih =>
    intro p n V hp hn ht h3 h4
    obtain ⟨n, rfl⟩ : ∃ q, n = q + 1 := ⟨n - 1, by omega⟩
    have hc := ht.2 p _ (chA_in (show p < x.length by omega))
    rw [f_X1_advance_L0, h3, h4, if_neg (by rw [i_le, i_n (by omega), i_n (by omega)]; omega), if_pos (x_inN (by omega) (by decide)), i_c (by omega), hc, nI_1, skp]
    by_cases c : chA x p = 32
    · rw [if_pos c, if_pos c]
      obtain ⟨V', e, v4, f1, f2⟩ := ih (p + 1) n (x_up V 10 4 (nI (p + 1))) (by omega) (by omega) (ht.cg (by rw [up_a (by decide)]) (up_a (by decide))) (by rw [up_k (by decide)]; exact h3) up_eq
      exact ⟨V', e, v4, fun a ha => by rw [f1 a ha, up_a ha], fun j hj => by rw [f2 j hj, up_k hj]⟩
    · rw [if_neg c, if_neg c]
      exact ⟨V, rfl, h4, fun _ _ => rfl, fun _ _ => rfl⟩
theorem m_let (hl : x.length ≤ 100) (ht : mTx V x) {p : Nat} (hp : p ≤ 200) : f_X7_letterAt (nI p) V = some (chA x p, V) := by
  unfold f_X7_letterAt
  rw [ht.1]
  by_cases c : x.length ≤ p
  · rw [if_pos (by rw [i_le, i_n (by omega), i_n (by omega)]; omega), chA_out c]
  · rw [if_neg (by rw [i_le, i_n (by omega), i_n (by omega)]; omega), if_pos (x_inN (by omega) (by decide)), i_c (by omega), ht.2 p _ (chA_in (by omega))]
theorem m_adv0 (hl : x.length ≤ 100) {k : xV → Option xV} : ∀ (m p n : Nat) (V : xV), p + m = x.length → m < n → mTx V x → V 96 3 = nI p → ∃ V', f_X7_advances_L0 n k V = k V' ∧ V' 96 3 = nI (skp x m p) ∧ (∀ a, a ≠ 96 → V' a = V a) ∧ ∀ j, j ≠ 3 → V' 96 j = V 96 j := by
  intro m
  induction m with
  | zero =>
    intro p n V hp hn ht h3
    obtain ⟨n, rfl⟩ : ∃ q, n = q + 1 := ⟨n - 1, by omega⟩
    refine ⟨V, ?_, h3, fun _ _ => rfl, fun _ _ => rfl⟩
    rw [f_X7_advances_L0, h3, m_let hl ht (by omega), x_b2_some, chA_out (by omega), if_neg (by decide)]
  | succ m ih =>
    intro p n V hp hn ht h3
    obtain ⟨n, rfl⟩ : ∃ q, n = q + 1 := ⟨n - 1, by omega⟩
    rw [f_X7_advances_L0, h3, m_let hl ht (by omega), x_b2_some, skp, h3, nI_1]
    by_cases c : chA x p = 32
    · rw [if_pos c, if_pos c]
      obtain ⟨V', e, v4, f1, f2⟩ := ih (p + 1) n (x_up V 96 3 (nI (p + 1))) (by omega) (by omega) (ht.cg (up_k (by decide)) (up_a (by decide))) up_eq
      exact ⟨V', e, v4, fun a ha => by rw [f1 a ha, up_a ha], fun j hj => by rw [f2 j hj, up_k hj]⟩
    · rw [if_neg c, if_neg c]
      exact ⟨V, rfl, h3, fun _ _ => rfl, fun _ _ => rfl⟩
theorem m_adv71 (hl : x.length ≤ 100) {l1 : Int32} {k : xV → Option xV} : ∀ (m p v n : Nat) (V : xV), p + m = x.length → m < n → v ≤ 999 → mTx V x → V 96 3 = nI p → V 96 6 = nI v → ∃ V', f_X7_advances_L71 l1 n k V = k V' ∧ V' 96 3 = nI (numE x m p v).1 ∧ V' 96 6 = nI (numE x m p v).2 ∧ (∀ a, a ≠ 96 → V' a = V a) ∧ ∀ j, j ≠ 3 → j ≠ 6 → V' 96 j = V 96 j := by
  intro m
  induction m with
  | zero =>
    intro p v n V hp hn hv ht h3 h6
    obtain ⟨n, rfl⟩ : ∃ q, n = q + 1 := ⟨n - 1, by omega⟩
    refine ⟨V, ?_, h3, h6, fun _ _ => rfl, fun _ _ _ => rfl⟩
    rw [f_X7_advances_L71, h3, m_let hl ht (by omega), x_b2_some, m_fig, x_b2_some, chA_out (by omega), if_pos (by decide)]
  | succ m ih =>
    intro p v n V hp hn hv ht h3 h6
    obtain ⟨n, rfl⟩ : ∃ q, n = q + 1 := ⟨n - 1, by omega⟩
    rw [f_X7_advances_L71, h3, m_let hl ht (by omega), x_b2_some, m_fig, x_b2_some, numE]
    cases hd : dgt (chA x p) with
    | false =>
      rw [if_pos bI_f]
      exact ⟨V, rfl, h3, h6, fun _ _ => rfl, fun _ _ _ => rfl⟩
    | true =>
      obtain ⟨d1, d2, d3⟩ := dgN_ok hd
      have step : ∃ V1, f_X7_advances_L71 l1 (n + 1) k V = f_X7_advances_L71 l1 n k V1 ∧ V1 = x_up (x_up V 96 6 (nI (nxv v (chA x p)))) 96 3 (nI (p + 1)) := by
        refine ⟨_, ?_, rfl⟩
        rw [f_X7_advances_L71, h3, m_let hl ht (by omega), x_b2_some, m_fig, x_b2_some, hd, if_neg (by decide), h6, h3, nI_1]
        unfold nxv
        by_cases c : v ≤ 99
        · rw [if_pos (by rw [i_le, i_n (by omega), show (99 : Int32).toInt = 99 from rfl]; omega), m_let hl ht (by omega), x_b2_some, h3, nI_1, if_pos c]
          have : ((10 : Int32) * nI v + chA x p) - 48 = nI (10 * v + dgN (chA x p)) := by
            conv => lhs; rw [d2]
            rw [show (10 : Int32) = nI 10 from rfl, pk_mul, nI_add, show (48 : Int32) = nI 48 from rfl, pk_sub (by omega)]
            congr 1
            omega
          rw [this]
        · rw [if_neg (by rw [i_le, i_n (by omega), show (99 : Int32).toInt = 99 from rfl]; omega), if_neg c]
      obtain ⟨V1, e1, rfl⟩ := step
      obtain ⟨V', e, v3, v6, f1, f2⟩ := ih (p + 1) (nxv v (chA x p)) n (x_up (x_up V 96 6 (nI (nxv v (chA x p)))) 96 3 (nI (p + 1))) (by omega) (by omega) (by unfold nxv; split <;> omega) (ht.cg (by rw [up_k (by decide), up_k (by decide)]) (by rw [up_a (by decide), up_a (by decide)])) up_eq (by rw [up_k (by decide), up_eq])
      rw [f_X7_advances_L71, h3, m_let hl ht (by omega), x_b2_some, m_fig, x_b2_some, hd] at e1
      refine ⟨V', e1.trans e, v3, v6, fun a ha => by rw [f1 a ha, up_a ha, up_a ha], fun j j1 j2 => by rw [f2 j j1 j2, up_k j1, up_k j2]⟩
end TK
