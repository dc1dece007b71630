/-! what the reference weighs -/
def p_mx (d : sT) (l : List Nat) : Nat → Nat
  | 0 => 0
  | n + 1 => max (p_mx d l n) (p_sm d l n)
def p_ov (d : sT) (l : List Nat) : Nat → Nat
  | 0 => 0
  | n + 1 => max (p_ov d l n) (p_sm d l n - d.2.2.2.1 n)
theorem p_mx_cons (d : sT) (x : Nat) (l : List Nat) : ∀ n, (n ≤ x → p_mx d (x :: l) n = p_mx d l n) ∧ (x < n → p_mx d (x :: l) n = max (p_mx d l n) (p_sm d (x :: l) x)) := by
  intro n
  induction n with
  | zero => exact ⟨fun _ => rfl, fun h => by omega⟩
  | succ n ih =>
    refine ⟨fun h => ?_, fun h => ?_⟩
    · simp only [p_mx]
      rw [ih.1 (by omega)]
      simp only [p_sm]
      rw [if_neg (by omega), Nat.add_zero]
    · by_cases hx : x = n
      · subst hx
        simp only [p_mx]
        rw [ih.1 (Nat.le_refl _)]
        simp only [p_sm, if_true]
        omega
      · simp only [p_mx]
        rw [ih.2 (by omega)]
        have e : p_sm d (x :: l) n = p_sm d l n := by simp only [p_sm]; rw [if_neg hx, Nat.add_zero]
        rw [e]
        omega
theorem p_mx_nil (d : sT) : ∀ n, p_mx d [] n = 0 := by
  intro n
  induction n with
  | zero => rfl
  | succ n ih => simp only [p_mx, ih, p_sm]; rfl
theorem p_mo_mx {d : sT} : ∀ l : List Nat, (∀ x ∈ l, x < d.1) → p_mo d l = p_mx d l d.1 := by
  intro l
  induction l with
  | nil => intro _; rw [p_mx_nil]; rfl
  | cons x l ih =>
    intro h
    rw [(p_mx_cons d x l d.1).2 (h x List.mem_cons_self), ← ih (fun y hy => h y (List.mem_cons_of_mem _ hy))]
    rfl
theorem p_mx_le {d : sT} (hd : okT d) {l : List Nat} (hl : l.length ≤ p_N d) : ∀ n, p_mx d l n ≤ 240 := by
  have hN : p_N d ≤ 8 := Nat.le_trans (Nat.mul_le_mul hd.2.2.1 hd.2.2.2.2.1) (by decide)
  intro n
  induction n with
  | zero => exact Nat.zero_le _
  | succ n ih =>
    have := p_sm_le hd n l hl
    simp only [p_mx]
    omega
theorem p_ov_le {d : sT} (hd : okT d) {l : List Nat} (hl : l.length ≤ p_N d) : ∀ n, p_ov d l n ≤ 240 := by
  have hN : p_N d ≤ 8 := Nat.le_trans (Nat.mul_le_mul hd.2.2.1 hd.2.2.2.2.1) (by decide)
  intro n
  induction n with
  | zero => exact Nat.zero_le _
  | succ n ih =>
    have := p_sm_le hd n l hl
    simp only [p_ov]
    omega
section MW
variable {d : sT} {V0 : xV}
theorem m_w7 (hd : okT d) (h0 : mTo V0 d) {V : xV} {l : List Nat} (hB : mBs d V0 V l) (hl : l.length ≤ p_N d) {l1 : Int32} {k : Int32 → Int32 → Int32 → xV → Option xV} : ∀ (m t n : Nat), m + t = d.1 → m < n → f_X7_weighs_L7 l1 n k (nI (p_mx d l t)) (nI (p_ov d l t)) (nI t) V = k (nI (p_mx d l d.1)) (nI (p_ov d l d.1)) (nI d.1) V := by
  have hN : p_N d ≤ 8 := Nat.le_trans (Nat.mul_le_mul hd.2.2.1 hd.2.2.2.2.1) (by decide)
  have hT := hd.1
  have h8 : V 96 8 = nI d.1 := (hB.1.2 8 (by decide) (by decide)).trans h0.1
  intro m
  induction m with
  | zero =>
    intro t n ht hn
    obtain ⟨n, rfl⟩ : ∃ q, n = q + 1 := ⟨n - 1, by omega⟩
    obtain rfl : t = d.1 := by omega
    rw [f_X7_weighs_L7, h8, if_pos (by rw [i_le]; exact Int.le_refl _)]
  | succ m ih =>
    intro t n ht hn
    obtain ⟨n, rfl⟩ : ∃ q, n = q + 1 := ⟨n - 1, by omega⟩
    have htT : t < d.1 := by omega
    have e99 : V 99 t = nI (d.2.2.2.1 t) := by rw [hB.1.1 99 (by decide) (by decide) (by decide) (by decide) (by decide)]; exact h0.2.2.2.1 t htT
    have hs := p_sm_le hd t l hl
    have hb := hd.2.2.2.2.2.1 t htT
    have hmx := p_mx_le hd hl t
    have hov := p_ov_le hd hl t
    have ih' := ih (t + 1) n (by omega) (by omega)
    simp only [p_mx, p_ov] at ih'
    rw [f_X7_weighs_L7, h8, if_neg (by rw [i_le, i_n (by omega), i_n (by omega)]; omega), if_pos (x_inN (by omega) (by decide)), i_c (by omega), hB.2.2.2.1 t (by omega), e99, nI_1]
    have eo : ∀ h : ¬ p_sm d l t - d.2.2.2.1 t ≤ p_ov d l t, nI (p_sm d l t) - nI (d.2.2.2.1 t) = nI (p_sm d l t - d.2.2.2.1 t) := fun h => pk_sub (by omega)
    by_cases c1 : p_sm d l t ≤ p_mx d l t
    · rw [if_pos (by rw [i_le, i_n (by omega), i_n (by omega)]; omega)]
      rw [Nat.max_eq_left c1] at ih'
      by_cases c2 : p_sm d l t - d.2.2.2.1 t ≤ p_ov d l t
      · rw [if_pos (by rw [i_le, i_s (by omega) (by omega), i_n (by omega)]; omega)]
        rw [Nat.max_eq_left c2] at ih'
        exact ih'
      · rw [if_neg (by rw [i_le, i_s (by omega) (by omega), i_n (by omega)]; omega), eo c2]
        rw [Nat.max_eq_right (by omega)] at ih'
        exact ih'
    · rw [if_neg (by rw [i_le, i_n (by omega), i_n (by omega)]; omega)]
      rw [Nat.max_eq_right (by omega)] at ih'
      by_cases c2 : p_sm d l t - d.2.2.2.1 t ≤ p_ov d l t
      · rw [if_pos (by rw [i_le, i_s (by omega) (by omega), i_n (by omega)]; omega)]
        rw [Nat.max_eq_left c2] at ih'
        exact ih'
      · rw [if_neg (by rw [i_le, i_s (by omega) (by omega), i_n (by omega)]; omega), eo c2]
        rw [Nat.max_eq_right (by omega)] at ih'
        exact ih'
theorem m_w156 {l1 l2 l3 l4 : Int32} {k : Int32 → xV → Option xV} : ∀ (m j n : Nat) (V : xV), m + j = 8 → m < n → f_X7_weighs_L156 l1 l2 l3 l4 n k (nI j) V = k (nI 8) (bcp V 108 0 111 0 j 8) := by
  intro m
  induction m with
  | zero =>
    intro j n V hj hn
    obtain ⟨n, rfl⟩ : ∃ q, n = q + 1 := ⟨n - 1, by omega⟩
    obtain rfl : j = 8 := by omega
    rw [f_X7_weighs_L156, if_pos (by decide), bcp_end]
  | succ m ih =>
    intro j n V hj hn
    obtain ⟨n, rfl⟩ : ∃ q, n = q + 1 := ⟨n - 1, by omega⟩
    rw [f_X7_weighs_L156, if_neg (by rw [i_le, i_n (by omega), show (8 : Int32).toInt = 8 from rfl]; omega), if_pos (x_inN (by omega) (by decide)), i_c (by omega), nI_1, ih (j + 1) n _ (by omega) (by omega)]
    rw [show x_up V 111 j (V 108 j) = x_up V 111 (0 + j) (V 108 (0 + j)) by rw [Nat.zero_add], bcp_step (by omega) (by omega)]
theorem mBs.acc {V V' : xV} {l : List Nat} (h : mBs d V0 V l) (e : ∀ a, a ≠ 96 → a ≠ 111 → V' a = V a) (e2 : ∀ k, k ≠ 32 → k ≠ 33 → V' 96 k = V 96 k) : mBs d V0 V' l := by
  obtain ⟨h1, h2, h3, h4, h5⟩ := h
  refine ⟨⟨fun a q1 q2 q3 q4 q5 => by rw [e a q1 q5]; exact h1.1 a q1 q2 q3 q4 q5, fun k q1 q2 => by rw [e2 k q1 q2]; exact h1.2 k q1 q2⟩, fun i hi => by rw [e 108 (by decide) (by decide)]; exact h2 i hi, fun i hi => by rw [e 109 (by decide) (by decide)]; exact h3 i hi, fun t ht => by rw [e 110 (by decide) (by decide)]; exact h4 t ht, h5⟩
theorem m_weigh0 (hd : okT d) (h0 : mTo V0 d) (V : xV) (l : List Nat) (a : Option (Nat × Nat × List Nat)) (hB : mBs d V0 V l) (hl : l.length = p_N d) (hR : Ra0 d V a) (hc : p_ch d l ≤ aL a) : ∃ V', f_X7_weighs 0 V = some V' ∧ mBs d V0 V' l ∧ Ra0 d V' (p_upd d a l) := by
  have hN : p_N d ≤ 8 := Nat.le_trans (Nat.mul_le_mul hd.2.2.1 hd.2.2.2.2.1) (by decide)
  have hT := hd.1
  have h9 : V 96 9 = nI d.2.1 := (hB.1.2 9 (by decide) (by decide)).trans h0.2.1
  have h10 : V 96 10 = nI d.2.2.1 := (hB.1.2 10 (by decide) (by decide)).trans h0.2.2.1
  have e109 : V 109 (p_N d) = nI (p_ch d l) := by have := hB.2.2.1 l.length (Nat.le_refl _); rw [Nat.sub_self, List.drop_zero, hl] at this; exact this
  have hch := p_ch_le d l
  have hmx := p_mx_le hd (l := l) (by omega) d.1
  have hmo := p_mo_mx l hB.2.2.2.2
  have e7 := m_w7 hd h0 hB (by omega) (l1 := 0) (k := fun l2_6 l3_7 l4_8 V9 => if (0 : Int32) = 0 then (if x_in ((V9 96 9) * (V9 96 10)) 9 = true then (if (V9 109 (((V9 96 9) * (V9 96 10)).toNatClampNeg)) < (V9 96 32) then (f_X7_weighs_L156 0 l2_6 l3_7 (V9 109 (((V9 96 9) * (V9 96 10)).toNatClampNeg)) 300 (fun l5_16 V17 => some V17) (0 : Int32) (x_up (x_up V9 96 32 (V9 109 (((V9 96 9) * (V9 96 10)).toNatClampNeg))) 96 33 l2_6)) else (if (V9 96 33) ≤ l2_6 then (some V9) else (f_X7_weighs_L156 0 l2_6 l3_7 (V9 109 (((V9 96 9) * (V9 96 10)).toNatClampNeg)) 300 (fun l5_19 V20 => some V20) (0 : Int32) (x_up (x_up V9 96 32 (V9 109 (((V9 96 9) * (V9 96 10)).toNatClampNeg))) 96 33 l2_6)))) else none) else (if (V9 96 32) ≤ l3_7 then (some (x_up V9 96 32 (V9 96 32))) else (some (x_up V9 96 32 l3_7)))) d.1 0 300 (by omega) (by omega)
  have eN : nI d.2.1 * nI d.2.2.1 = nI (p_N d) := pk_mul _ _
  have e : f_X7_weighs 0 V = (if nI (p_ch d l) < V 96 32 then some (bcp (x_up (x_up V 96 32 (nI (p_ch d l))) 96 33 (nI (p_mx d l d.1))) 108 0 111 0 0 8) else if V 96 33 ≤ nI (p_mx d l d.1) then some V else some (bcp (x_up (x_up V 96 32 (nI (p_ch d l))) 96 33 (nI (p_mx d l d.1))) 108 0 111 0 0 8)) := by
    refine (show f_X7_weighs 0 V = _ from e7).trans ?_
    rw [if_pos rfl, h9, h10, eN, if_pos (x_inN (by omega) (by decide)), i_c (by omega), e109]
    have q := m_w156 (l1 := 0) (l2 := nI (p_mx d l d.1)) (l3 := nI (p_ov d l d.1)) (l4 := nI (p_ch d l)) (k := fun _ V => some V) 8 0 300 (x_up (x_up V 96 32 (nI (p_ch d l))) 96 33 (nI (p_mx d l d.1))) rfl (by decide)
    have q : f_X7_weighs_L156 0 (nI (p_mx d l d.1)) (nI (p_ov d l d.1)) (nI (p_ch d l)) 300 (fun _ V => some V) (0 : Int32) (x_up (x_up V 96 32 (nI (p_ch d l))) 96 33 (nI (p_mx d l d.1))) = some (bcp (x_up (x_up V 96 32 (nI (p_ch d l))) 96 33 (nI (p_mx d l d.1))) 108 0 111 0 0 8) := q
    rw [q]
  have hnew : mBs d V0 (bcp (x_up (x_up V 96 32 (nI (p_ch d l))) 96 33 (nI (p_mx d l d.1))) 108 0 111 0 0 8) l ∧ Ra0 d (bcp (x_up (x_up V 96 32 (nI (p_ch d l))) 96 33 (nI (p_mx d l d.1))) 108 0 111 0 0 8) (some (p_ch d l, p_mo d l, l)) := by
    refine ⟨hB.acc (fun a h1 h2 => by rw [bcp_ne h2, up_a h1, up_a h1]) (fun k h1 h2 => by rw [bcp_ne (by decide), up_k h2, up_k h1]), ?_, ?_, fun k hk => ?_, by show p_ch d l ≤ 8; omega, by show p_mo d l ≤ 240; omega⟩
    · rw [bcp_ne (by decide), up_k (by decide), up_eq]
    · rw [bcp_ne (by decide), up_eq, hmo]
    · have := bcp_in (V := x_up (x_up V 96 32 (nI (p_ch d l))) 96 33 (nI (p_mx d l d.1))) (a := 108) (so := 0) (b := 111) (o := 0) (N := 8) (k := k) (by omega)
      rw [Nat.zero_add] at this
      rw [this, up_a (by decide), up_a (by decide)]
      exact hB.2.1 k (by omega)
  cases a with
  | none =>
    refine ⟨_, ?_, hnew⟩
    rw [e, if_pos (by rw [hR.1, i_lt, i_n (by omega), show (99 : Int32).toInt = 99 from rfl]; omega)]
  | some q =>
    have hq1 : q.1 ≤ 8 := hR.2.2.2.1
    have hq2 : q.2.1 ≤ 240 := hR.2.2.2.2
    have hc : p_ch d l ≤ q.1 := hc
    simp only [p_upd]
    by_cases c : p_ch d l < q.1 ∨ (p_ch d l = q.1 ∧ p_mo d l < q.2.1)
    · rw [if_pos c]
      refine ⟨_, ?_, hnew⟩
      rw [e]
      by_cases c1 : p_ch d l < q.1
      · rw [if_pos (by rw [hR.1, i_lt, i_n (by omega), i_n (by omega)]; omega)]
      · rw [if_neg (by rw [hR.1, i_lt, i_n (by omega), i_n (by omega)]; omega), if_neg (by rw [hR.2.1, i_le, i_n (by omega), i_n (by omega)]; omega)]
    · rw [if_neg c]
      refine ⟨V, ?_, hB, hR⟩
      rw [e, if_neg (by rw [hR.1, i_lt, i_n (by omega), i_n (by omega)]; omega), if_pos (by rw [hR.2.1, i_le, i_n (by omega), i_n (by omega)]; omega)]
/-! for NEEDED -/
def ft1 (d : sT) (w : sW) (br : Option Nat) (a : Nat) (l : List Nat) (t : Nat) : Bool := p_al d w br l.length t && p_side d w l t && decide (p_sm d l t + p_lt d l.length < a + d.2.2.2.1 t)
def Ra1 (V : xV) (a : Nat) : Prop := V 96 32 = nI a ∧ a ≤ 100
theorem m_weigh1 (hd : okT d) (h0 : mTo V0 d) (V : xV) (l : List Nat) (a : Nat) (hB : mBs d V0 V l) (hl : l.length = p_N d) (hR : Ra1 V a) : ∃ V', f_X7_weighs 1 V = some V' ∧ mBs d V0 V' l ∧ Ra1 V' (min a (p_ov d l d.1)) := by
  have hN : p_N d ≤ 8 := Nat.le_trans (Nat.mul_le_mul hd.2.2.1 hd.2.2.2.2.1) (by decide)
  have hT := hd.1
  have hov := p_ov_le hd (l := l) (by omega) d.1
  obtain ⟨r1, r2⟩ := hR
  have e7 := m_w7 hd h0 hB (by omega) (l1 := 1) (k := fun l2_6 l3_7 l4_8 V9 => if (1 : Int32) = 0 then (if x_in ((V9 96 9) * (V9 96 10)) 9 = true then (if (V9 109 (((V9 96 9) * (V9 96 10)).toNatClampNeg)) < (V9 96 32) then (f_X7_weighs_L156 1 l2_6 l3_7 (V9 109 (((V9 96 9) * (V9 96 10)).toNatClampNeg)) 300 (fun l5_16 V17 => some V17) (0 : Int32) (x_up (x_up V9 96 32 (V9 109 (((V9 96 9) * (V9 96 10)).toNatClampNeg))) 96 33 l2_6)) else (if (V9 96 33) ≤ l2_6 then (some V9) else (f_X7_weighs_L156 1 l2_6 l3_7 (V9 109 (((V9 96 9) * (V9 96 10)).toNatClampNeg)) 300 (fun l5_19 V20 => some V20) (0 : Int32) (x_up (x_up V9 96 32 (V9 109 (((V9 96 9) * (V9 96 10)).toNatClampNeg))) 96 33 l2_6)))) else none) else (if (V9 96 32) ≤ l3_7 then (some (x_up V9 96 32 (V9 96 32))) else (some (x_up V9 96 32 l3_7)))) d.1 0 300 (by omega) (by omega)
  refine ⟨x_up V 96 32 (nI (min a (p_ov d l d.1))), ?_, hB.acc (fun a h1 h2 => up_a h1) (fun k h1 h2 => up_k h1), up_eq, by omega⟩
  refine (show f_X7_weighs 1 V = _ from e7).trans ?_
  rw [if_neg (by decide), r1]
  by_cases c : a ≤ p_ov d l d.1
  · rw [if_pos (by rw [i_le, i_n (by omega), i_n (by omega)]; omega), Nat.min_eq_left c]
  · rw [if_neg (by rw [i_le, i_n (by omega), i_n (by omega)]; omega), Nat.min_eq_right (by omega)]
theorem m_fits1 {w : sW} (hd : okT d) (hw : okW d w) (h0 : mTo V0 d) (hm : mW d (V0 103) 0 w) {br : Option Nat} (hbr : ∀ x, br = some x → x < d.1) (V : xV) (l : List Nat) (t : Nat) (a : Nat) (hB : mBs d V0 V l) (hl : l.length < p_N d) (ht : t < d.1) (hp : V 108 l.length = nI t) (hR : Ra1 V a) : f_X7_fits (nI l.length) (brI br) 1 V = some (bI (ft1 d w br a l t), V) := by
  have hN : p_N d ≤ 8 := Nat.le_trans (Nat.mul_le_mul hd.2.2.1 hd.2.2.2.2.1) (by decide)
  have hT := hd.1
  have hS4 := hd.2.2.1
  have hC1 := hd.2.2.2.1
  have hC2 := hd.2.2.2.2.1
  have hdiv := div_lt_S hd hl
  have h10 : V 96 10 = nI d.2.2.1 := (hB.1.2 10 (by decide) (by decide)).trans h0.2.2.1
  have hsm := p_sm_le hd t l (by omega)
  have hlt := p_lt_le hd hl
  have hbe := hd.2.2.2.2.2.1 t ht
  have e98 : V 98 (l.length / d.2.2.1) = nI (p_lt d l.length) := by rw [hB.1.1 98 (by decide) (by decide) (by decide) (by decide) (by decide)]; exact h0.2.2.2.2 _ hdiv
  have e99 : V 99 t = nI (d.2.2.2.1 t) := by rw [hB.1.1 99 (by decide) (by decide) (by decide) (by decide) (by decide)]; exact h0.2.2.2.1 t ht
  obtain ⟨r1, r2⟩ := hR
  unfold f_X7_fits ft1
  rw [if_pos (x_inN (by omega) (by decide)), m_may hd hw h0 hm hB hl ht hp hbr, x_b2_some, i_c (by omega), hp]
  cases hma : (p_al d w br l.length t && p_side d w l t)
  · rw [if_pos bI_f]
    simp only [Bool.false_and]
    rfl
  · rw [if_neg (by decide), if_pos (x_inN (by omega) (by decide)), h10, if_neg (by rw [i_eq, i_n (by omega), i_0]; omega), pk_div (by omega) (by omega) (by omega), if_pos (x_inN (by omega) (by decide)), if_neg (by decide), i_c (by omega), i_c (by omega), hB.2.2.2.1 t (by omega), e98, e99, nI_add, r1]
    simp only [Bool.true_and]
    by_cases hc : p_sm d l t + p_lt d l.length < a + d.2.2.2.1 t
    · rw [if_neg (by rw [i_le, i_n (by omega), i_s (by omega) (by omega)]; omega), decide_eq_true hc]
      rfl
    · rw [if_pos (by rw [i_le, i_n (by omega), i_s (by omega) (by omega)]; omega), decide_eq_false hc]
      rfl
end MW
/-! tries -/
theorem m_L107F (F : Nat) (l1 l2 l3 : Int32) (k : xV → Option xV) : ∀ n V, f_X7_tries_L107 F l1 l2 l3 n k V = f_X7_tries_L107 0 l1 l2 l3 n k V := by
  intro n
  induction n with
  | zero => intro V; rfl
  | succ n ih =>
    intro V
    rw [f_X7_tries_L107, f_X7_tries_L107]
    simp only [ih]
theorem m_L59F (F : Nat) (l1 l2 : Int32) (k : Int32 → xV → Option xV) : ∀ n l3 V, f_X7_tries_L59 F l1 l2 n k l3 V = f_X7_tries_L59 0 l1 l2 n k l3 V := by
  intro n
  induction n with
  | zero => intro l3 V; rfl
  | succ n ih =>
    intro l3 V
    rw [m_L59eq, m_L59eq]
    have e : tcont F l1 l2 n k l3 = tcont 0 l1 l2 n k l3 := by
      funext V
      unfold tcont
      simp only [ih]
    rw [e]
    simp only [m_L107F F]
theorem m_L24 {F : Nat} {l1 l2 : Int32} {k : Int32 → xV → Option xV} : ∀ (m j n : Nat) (V : xV), m + j = 6 → m < n → ∃ V', f_X7_tries_L24 F l1 l2 n k (nI j) V = k (nI 6) V' ∧ (∀ a, a ≠ 110 → V' a = V a) ∧ (∀ t, t < j ∨ 6 ≤ t → V' 110 t = V 110 t) ∧ ∀ t, j ≤ t → t < 6 → V' 110 t = 0 := by
  intro m
  induction m with
  | zero =>
    intro j n V hj hn
    obtain ⟨n, rfl⟩ : ∃ q, n = q + 1 := ⟨n - 1, by omega⟩
    obtain rfl : j = 6 := by omega
    refine ⟨V, ?_, fun _ _ => rfl, fun _ _ => rfl, fun t h1 h2 => by omega⟩
    rw [f_X7_tries_L24, if_pos (by decide)]
  | succ m ih =>
    intro j n V hj hn
    obtain ⟨n, rfl⟩ : ∃ q, n = q + 1 := ⟨n - 1, by omega⟩
    obtain ⟨V', e1, e2, e3, e4⟩ := ih (j + 1) n (x_up V 110 j 0) (by omega) (by omega)
    refine ⟨V', ?_, fun a ha => by rw [e2 a ha, up_a ha], fun t ht => by rw [e3 t (by omega), up_k (by omega)], fun t h1 h2 => ?_⟩
    · rw [f_X7_tries_L24, if_neg (by rw [i_le, i_n (by omega), show (6 : Int32).toInt = 6 from rfl]; omega), if_pos (x_inN (by omega) (by decide)), i_c (by omega), nI_1]
      exact e1
    · by_cases h : t = j
      · subst h
        rw [e3 t (by omega), up_eq]
      · exact e4 t (by omega) h2
theorem m_tries {A : Type} {d : sT} {V : xV} {b nd : Int32} {Ra : xV → A → Prop} {ft : A → List Nat → Nat → Bool} {up : A → List Nat → A} (hd : okT d) (h0 : mTo V d) (hnd : nd = 0 ∨ nd = 1) (hRa : ∀ V V' a, (∀ k, k = 32 ∨ k = 33 → V' 96 k = V 96 k) → V' 111 = V 111 → Ra V a → Ra V' a)
    (hfit : ∀ V1 l t a, mBs d V V1 l → l.length < p_N d → t < d.1 → V1 108 l.length = nI t → Ra V1 a → f_X7_fits (nI l.length) b nd V1 = some (bI (ft a l t), V1))
    (hwgh : ∀ V1 l a, mBs d V V1 l → l.length = p_N d → Ra V1 a → (∀ l' t, l = t :: l' → ft a l' t = true) → ∃ V', f_X7_weighs nd V1 = some V' ∧ mBs d V V' l ∧ Ra V' (up a l)) (a0 : A) (hR0 : ∀ V1, V1 96 32 = (if nd = 0 then 99 else 100) → V1 96 33 = 1000 → Ra V1 a0) : ∃ F0 V', (∀ F, F0 ≤ F → f_X7_tries F b nd V = some V') ∧ mFr V V' ∧ Ra V' (gd d.1 ft up (p_N d) [] a0) := by
  have hN : p_N d ≤ 8 := Nat.le_trans (Nat.mul_le_mul hd.2.2.1 hd.2.2.2.2.1) (by decide)
  have hN1 : 1 ≤ p_N d := Nat.mul_le_mul hd.2.1 hd.2.2.2.1
  obtain ⟨N, hNe⟩ : ∃ N, p_N d = N + 1 := ⟨p_N d - 1, by omega⟩
  have hT := hd.1
  obtain ⟨V1, e1, e2, e3, e4⟩ := m_L24 (F := 0) (l1 := b) (l2 := nd) (k := fun _ V => some V) 6 0 300 (x_up (x_up V 96 32 (if nd = 0 then 99 else 100)) 96 33 1000) rfl (by decide)
  have hB : mBs d V (x_up (x_up (x_up V1 108 0 (-1)) 109 0 0) 108 0 (nI 0)) [] := by
    refine ⟨⟨fun a h1 h2 h3 h4 h5 => ?_, fun k h1 h2 => ?_⟩, fun i hi => by simp at hi, fun i hi => ?_, fun t ht => ?_, fun x hx => absurd hx List.not_mem_nil⟩
    · rw [up_a h2, up_a h3, up_a h2, e2 a h4, up_a h1, up_a h1]
    · rw [up_a (by decide), up_a (by decide), up_a (by decide), e2 96 (by decide), up_k h2, up_k h1]
    · obtain rfl : i = 0 := by simpa using hi
      rw [up_a (by decide), up_eq]
      rfl
    · rw [up_a (by decide), up_a (by decide), up_a (by decide), e4 t (by omega) ht]
      rfl
  have hR := hR0 (x_up (x_up (x_up V1 108 0 (-1)) 109 0 0) 108 0 (nI 0)) (by rw [up_a (by decide), up_a (by decide), up_a (by decide), e2 96 (by decide), up_k (by decide), up_eq]) (by rw [up_a (by decide), up_a (by decide), up_a (by decide), e2 96 (by decide), up_eq])
  obtain ⟨V', q, g1, g2, g3⟩ := m_dfs (F := 0) hd h0 hRa hfit hwgh N [] (by simp [hNe]) d.1 0 _ a0 rfl hB up_eq hR 300 (by omega)
  rw [← List.range_eq_range'] at g2
  refine ⟨q + 2, V', fun F hF => ?_, g1.1, ?_⟩
  · obtain ⟨n, rfl⟩ : ∃ n, F = n + 1 + q + 1 := ⟨F - q - 2, by omega⟩
    have fin : f_X7_tries_J45 (n + 1 + q + 1) b nd 0 V1 = some V' := by
      unfold f_X7_tries_J45
      rw [m_L59F, show (0 : Int32) = nI 0 from rfl, m_L59a hd (by decide) (by rw [up_a (by decide), up_eq])]
      refine (g3 (n + 1) _).trans ?_
      rw [m_L59eq, if_pos (by decide)]
    have e24 : ∀ F, f_X7_tries_L24 F b nd 300 (fun l3_4 V5 => f_X7_tries_J45 (n + 1 + q + 1) b nd (0 : Int32) V5) (0 : Int32) (x_up (x_up V 96 32 (if nd = 0 then 99 else 100)) 96 33 1000) = some V' := by
      intro F
      obtain ⟨V1', c1, c2, c3, c4⟩ := m_L24 (F := F) (l1 := b) (l2 := nd) (k := fun l3_4 V5 => f_X7_tries_J45 (n + 1 + q + 1) b nd (0 : Int32) V5) 6 0 300 (x_up (x_up V 96 32 (if nd = 0 then 99 else 100)) 96 33 1000) rfl (by decide)
      have : V1' = V1 := by
        funext a
        by_cases ha : a = 110
        · subst ha
          funext t
          by_cases ht : t < 6
          · rw [c4 t (by omega) ht, e4 t (by omega) ht]
          · rw [c3 t (by omega), e3 t (by omega)]
        · rw [c2 a ha, e2 a ha]
      rw [show (0 : Int32) = nI 0 from rfl] at c1 ⊢
      rw [c1, this]
      exact fin
    unfold f_X7_tries
    rcases hnd with rfl | rfl
    · rw [if_pos rfl]
      exact e24 _
    · rw [if_neg (by decide)]
      exact e24 _
  · rw [hNe]
    exact g2
