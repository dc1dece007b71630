theorem oI_inj {a b : Option Nat} (ha : ∀ x, a = some x → x < 2000) (hb : ∀ x, b = some x → x < 2000) (h : oI a = oI b) : a = b := by
  cases a with
  | none => cases b with
    | none => rfl
    | some y => exfalso; have := hb y rfl; simp only [oI, i_eq, i_n this, show (-9 : Int32).toInt = -9 from rfl] at h; omega
  | some x => cases b with
    | none => exfalso; have := ha x rfl; simp only [oI, i_eq, i_n this, show (-9 : Int32).toInt = -9 from rfl] at h; omega
    | some y => rw [i_inj (ha x rfl) (hb y rfl) h]
theorem slot_inj {C s b s0 b0 : Nat} (hb : b < C) (hb0 : b0 < C) (h : s * C + b = s0 * C + b0) : s = s0 ∧ b = b0 := by
  have h1 : (s * C + b) / C = s := by rw [Nat.mul_comm, Nat.mul_add_div (by omega), Nat.div_eq_of_lt hb, Nat.add_zero]
  have h2 : (s0 * C + b0) / C = s0 := by rw [Nat.mul_comm, Nat.mul_add_div (by omega), Nat.div_eq_of_lt hb0, Nat.add_zero]
  rw [h, h2] at h1
  subst h1
  exact ⟨rfl, by omega⟩
def w_set (w : sW) (s0 b0 : Nat) (n : Option Nat) : sW := (fun s b => if s = s0 ∧ b = b0 then n else w.1 s b, w.2)
theorem okW_set {d : sT} {w : sW} (h : okW d w) {s0 b0 : Nat} {n : Option Nat} (hn : ∀ x, n = some x → x < d.1) : okW d (w_set w s0 b0 n) := by
  refine ⟨fun s b x hs hb hx => ?_, h.2⟩
  by_cases hc : s = s0 ∧ b = b0
  · simp only [w_set, hc, and_self, if_true] at hx
    exact hn x hx
  · simp only [w_set, hc, if_false] at hx
    exact h.1 s b x hs hb hx
theorem cW_set {d : sT} (hd : okT d) {V : xV} {w : sW} (h : cW d V 5 w) {s0 b0 : Nat} (hb0 : b0 < d.2.2.1) {n : Option Nat} : cW d (x_up V 6 (s0 * d.2.2.1 + b0) (oI n)) 5 (w_set w s0 b0 n) := by
  obtain ⟨h1, h2, h3⟩ := h
  refine ⟨fun s b hs hb => ?_, fun t ht => ?_, ?_⟩
  · by_cases hc : s = s0 ∧ b = b0
    · obtain ⟨rfl, rfl⟩ := hc
      simp only [w_set, and_self, if_true]
      exact up_eq
    · simp only [w_set, hc, if_false]
      rw [up_k (fun q => hc (slot_inj hb hb0 q))]
      exact h1 s b hs hb
  · rw [up_a (by decide), up_a (by decide), up_a (by decide)]
    exact h2 t ht
  · rw [up_a (by decide)]
    exact h3
theorem mW_set {d : sT} (hd : okT d) {V : xV} {w : sW} (h : mW d (V 103) 0 w) {s0 b0 : Nat} (hs0 : s0 < d.2.1) (hb0 : b0 < d.2.2.1) {n : Option Nat} : mW d (x_up V 103 (2 * s0 + b0) (oI n) 103) 0 (w_set w s0 b0 n) := by
  obtain ⟨h1, h2, h3⟩ := h
  obtain ⟨-, -, d1, -, d2, -⟩ := hd
  refine ⟨fun s b hs hb => ?_, fun t ht => ?_, ?_⟩
  · by_cases hc : s = s0 ∧ b = b0
    · obtain ⟨rfl, rfl⟩ := hc
      simp only [w_set, and_self, if_true]
      rw [Nat.zero_add]
      exact up_eq
    · simp only [w_set, hc, if_false]
      rw [up_k (by omega)]
      exact h1 s b hs hb
  · rw [up_k (by omega), up_k (by omega), up_k (by omega)]
    exact h2 t ht
  · rw [up_k (by omega)]
    exact h3
theorem okH {d : sT} {w : sW} {hi : List sW} (hw : okW d w) (hh : ∀ w ∈ hi, okW d w) : ((w :: hi).take 10).length ≤ 10 ∧ ∀ u ∈ (w :: hi).take 10, okW d u := by
  refine ⟨by rw [List.length_take]; omega, fun u hu => ?_⟩
  rcases List.mem_cons.mp (List.mem_of_mem_take hu) with rfl | h
  · exact hw
  · exact hh u h
/-- a change of the wishes: class and reference remember, then each writes -/
theorem stp.chg {x : List Int32} {d : sT} {w w' : sW} {hi : List sW} {im : Option sW × Option sW} {se : List Int32} (hz : okS (x, d, w, hi, im, se)) (hw' : okW d w') (r : Int32) {f : xV → Option (Int32 × xV)} {g : Nat → xV → Option (Int32 × xV)}
    (hf : ∀ V V', Cls (x, d, w, hi, im, se) V → f_X6_rememberWishes V = some V' → cW d V' 5 w → ∃ V2, f V = some (r, V2) ∧ cW d V2 5 w' ∧ ∀ a, (a < 5 ∨ 9 < a) → V2 a = V' a)
    (hg : ∀ V V', Mdl (x, d, w, hi, im, se) V → f_X7_notes (x_up V 96 0 0) = some V' → V' 103 = V 103 → mW d (V' 103) 0 w → ∃ V2, g 0 V = some (r, V2) ∧ mW d (V2 103) 0 w' ∧ ∀ a, a ≠ 103 → V2 a = V' a) : stp f g (x, d, w, hi, im, se) := by
  obtain ⟨o1, o2, o3, o4, o5, o6, o7, o8, o9⟩ := hz.split
  obtain ⟨k1, k2⟩ := okH o4 o6
  refine ⟨r, (x, d, w', (w :: hi).take 10, im, se), ⟨o1, o2, o3, hw', k1, k2, o7, o8, o9⟩, fun V h => ?_, fun V h => ?_⟩
  · obtain ⟨h1, h2, h3, h4, h5, h6, h7⟩ := h.split
    obtain ⟨V', e1, e2, e3, e4⟩ := c_rem o3 h3 h4 o5
    obtain ⟨V2, g1, g2, g3⟩ := hf V V' h e1 (h3.cg (fun a _ _ => e4 a (by omega) (by omega)))
    refine ⟨V2, g1, h.wi g2 (e2.cg (fun a _ _ => g3 a (by omega))) (by rw [g3 73 (by decide)]; exact e3) (by rw [g3 0 (by decide), e4 0 (by decide) (by decide)]) (fun a ha => by rw [g3 a (by omega), e4 a (by omega) (by omega)]), fun a ha => by rw [g3 a (by omega), e4 a (by omega) (by omega)]⟩
  · obtain ⟨h1, h2, h3, h4, h5, h6⟩ := h.th.split
    obtain ⟨V', e1, e2, e3, e4⟩ := m_notes o3 h3 h4 o5
    have e5 : V' 103 = V 103 := by rw [e4 103 (by decide) (by decide), up_a (by decide)]
    obtain ⟨V2, g1, g2, g3⟩ := hg V V' h e1 e5 (by rw [e4 103 (by decide) (by decide)]; exact h3)
    refine ⟨0, V2, g1, h.wi g2 (e2.cg (by rw [g3 96 (by decide)]) (g3 104 (by decide))) (fun k hk h0 => by rw [g3 96 (by decide), e3 k hk, up_k h0]) (fun a ha h103 h104 => by rw [g3 a h103, e4 a (by omega) h104, up_a (by omega)]), fun a ha => by rw [g3 a (by omega), e4 a (by omega) (by omega), up_a (by omega)]⟩
theorem st_sets (z : sS) (hz : okS z) (a b c : Int32) : stp (f_X6_sets a b c) (fun _ => f_X7_sets a b c) z := by
  obtain ⟨x, d, w, hi, im, se⟩ := z
  obtain ⟨o1, o2, o3, o4, o5, o6, o7, o8, o9⟩ := hz.split
  obtain ⟨t1, t2, t3, t4, t5, t6, t7⟩ := id o3
  rcases i_arg a (n := d.2.1) (by omega) with ⟨s, hs, rfl⟩ | ha
  · rcases i_arg b (n := d.2.2.1) (by omega) with ⟨e, he, rfl⟩ | hb
    · obtain ⟨l1, l2⟩ := slot_lt o3 hs he
      -- what is to be there: n
      have main : ∀ n : Option Nat, (∀ q, n = some q → q < d.1) → (∀ V, cTo V d → f_X6_sets (nI s) (nI e) c V = f_X6_sets_J69 (nI s) (nI e) c (nI (s * d.2.2.1 + e)) (V 6 (s * d.2.2.1 + e)) (oI n) V) → (∀ V, mTo (x_up V 96 0 0) d → f_X7_sets (nI s) (nI e) c V = f_X7_sets_J60 (nI s) (nI e) c (nI (2 * s + e)) (oI n) (x_up V 96 0 0)) → stp (f_X6_sets (nI s) (nI e) c) (fun _ => f_X7_sets (nI s) (nI e) c) (x, d, w, hi, im, se) := by
        intro n hn hC hM
        by_cases hsame : w.1 s e = n
        · refine stp.same hz (-2) (fun V h => ?_) (fun V h => ?_)
          · obtain ⟨-, h2, h3, -⟩ := h.split
            rw [hC V h2]
            unfold f_X6_sets_J69
            have := h3.1 s e hs he
            rw [if_pos (by rw [this, hsame])]
          · obtain ⟨-, h2, h3, -⟩ := h.th.split
            show f_X7_sets _ _ _ V = _
            rw [hM V h2]
            unfold f_X7_sets_J60
            have := h3.1 s e hs he
            rw [Nat.zero_add] at this
            rw [if_pos (x_inN (by omega) (by decide)), i_c (by omega), if_pos (by rw [this, hsame])]
        · have hne : ¬ oI (w.1 s e) = oI n := fun q => hsame (oI_inj (fun y hy => by have := o4.1 s e y hs he hy; omega) (fun y hy => by have := hn y hy; omega) q)
          refine stp.chg (w' := w_set w s e n) hz (okW_set o4 hn) (oI (w.1 s e)) (fun V V' h hr hw => ?_) (fun V V' h hr e103 hw => ?_)
          · obtain ⟨-, h2, h3, -⟩ := h.split
            refine ⟨x_up V' 6 (s * d.2.2.1 + e) (oI n), ?_, cW_set o3 hw he, fun q hq => up_a (by omega)⟩
            rw [hC V h2]
            unfold f_X6_sets_J69
            have := h3.1 s e hs he
            rw [this, if_neg hne, hr, x_b1_some, if_pos (x_inN (by omega) (by decide)), i_c (by omega)]
          · obtain ⟨-, h2, h3, -⟩ := h.th.split
            refine ⟨x_up V' 103 (2 * s + e) (oI n), ?_, mW_set o3 hw hs he, fun q hq => up_a hq⟩
            show f_X7_sets _ _ _ V = _
            rw [hM V h2]
            unfold f_X7_sets_J60
            have := h3.1 s e hs he
            rw [Nat.zero_add] at this
            rw [if_pos (x_inN (by omega) (by decide)), i_c (by omega), this, if_neg hne, hr, x_b1_some]
      by_cases h6 : c = 6
      · refine main none (fun q hq => by cases hq) (fun V h2 => ?_) (fun V h2 => ?_)
        · unfold f_X6_sets
          rw [c_se1 h2.2.1 hs (by omega), x_b2_some, if_neg (by decide), c_ca1 h2.2.2.1 he (by omega), x_b2_some, if_neg (by decide), if_pos h6, c_slot h2.2.2.1, x_b2_some, if_pos (x_inN (by omega) (by decide)), i_c (by omega)]
          rfl
        · unfold f_X7_sets
          rw [m_se1 h2.2.1 hs (by omega), x_b2_some, if_neg (by decide), m_ca1 h2.2.2.1 he (by omega), x_b2_some, if_neg (by decide), if_pos h6, m_slot]
          rfl
      · rcases i_arg c (n := d.1) (by omega) with ⟨t, ht, rfl⟩ | hc
        · refine main (some t) (fun q hq => by cases hq; exact ht) (fun V h2 => ?_) (fun V h2 => ?_)
          · unfold f_X6_sets
            rw [c_se1 h2.2.1 hs (by omega), x_b2_some, if_neg (by decide), c_ca1 h2.2.2.1 he (by omega), x_b2_some, if_neg (by decide), if_neg h6, c_th1 h2.1 ht (by omega), x_b2_some, if_neg (by decide), c_slot h2.2.2.1, x_b2_some, if_pos (x_inN (by omega) (by decide)), i_c (by omega)]
            rfl
          · unfold f_X7_sets
            rw [m_se1 h2.2.1 hs (by omega), x_b2_some, if_neg (by decide), m_ca1 h2.2.2.1 he (by omega), x_b2_some, if_neg (by decide), if_neg h6, m_th1 h2.1 ht (by omega), x_b2_some, if_neg (by decide), m_slot]
            rfl
        · refine stp.same hz (-1) (fun V h => ?_) (fun V h => ?_)
          · obtain ⟨-, h2, h3, -⟩ := h.split
            unfold f_X6_sets
            rw [c_se1 h2.2.1 hs (by omega), x_b2_some, if_neg (by decide), c_ca1 h2.2.2.1 he (by omega), x_b2_some, if_neg (by decide), if_neg h6, c_th0 h2.1 (by omega) hc]
            rfl
          · obtain ⟨-, h2, h3, -⟩ := h.th.split
            show f_X7_sets _ _ _ V = _
            unfold f_X7_sets
            rw [m_se1 h2.2.1 hs (by omega), x_b2_some, if_neg (by decide), m_ca1 h2.2.2.1 he (by omega), x_b2_some, if_neg (by decide), if_neg h6, m_th0 h2.1 (by omega) hc]
            rfl
    · refine stp.same hz (-1) (fun V h => ?_) (fun V h => ?_)
      · obtain ⟨-, h2, h3, -⟩ := h.split
        unfold f_X6_sets
        rw [c_se1 h2.2.1 hs (by omega), x_b2_some, if_neg (by decide), c_ca0 h2.2.2.1 (by omega) hb]
        rfl
      · obtain ⟨-, h2, h3, -⟩ := h.th.split
        show f_X7_sets _ _ _ V = _
        unfold f_X7_sets
        rw [m_se1 h2.2.1 hs (by omega), x_b2_some, if_neg (by decide), m_ca0 h2.2.2.1 (by omega) hb]
        rfl
  · refine stp.same hz (-1) (fun V h => ?_) (fun V h => ?_)
    · obtain ⟨-, h2, h3, -⟩ := h.split
      unfold f_X6_sets
      rw [c_se0 h2.2.1 (by omega) ha]
      rfl
    · obtain ⟨-, h2, h3, -⟩ := h.th.split
      show f_X7_sets _ _ _ V = _
      unfold f_X7_sets
      rw [m_se0 h2.2.1 (by omega) ha]
      rfl
