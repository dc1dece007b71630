/-! runs -/
section RU
variable {d : sT} {op cp fo : Nat → Nat} {fr any : Bool}
def q_mn (d : sT) (op cp f : Nat → Nat) (i s m : Nat) : Prop := m ≤ 1000 ∧ (∀ t, t < s → (op i).testBit t = true → m ≤ f (q_lv d op cp t 4 (i + d.2.2.1) (p_lt d i))) ∧ (m = 1000 ∨ ∃ t, t < s ∧ (op i).testBit t = true ∧ m = f (q_lv d op cp t 4 (i + d.2.2.1) (p_lt d i)))
theorem c_run25 (hd : okT d) (ho : ∀ j, j < p_N d → op j < 64) (hcp : ∀ t, t < d.1 → cp t ≤ 1000) {V : xV} {f : Nat → Nat} (hP : qP d op cp f fo fr any V) (hf : ∀ k, f k ≤ 1001) {i : Nat} (hi : i < p_N d) {k : Int32 → Int32 → xV → Option xV} : ∀ (q s n m : Nat), q + s = d.1 → q < n → q_mn d op cp f i s m → ∃ m', q_mn d op cp f i d.1 m' ∧ f_X2_countRuns_L25 (nI i) n k (nI m) (nI s) V = k (nI m') (nI d.1) V := by
  have hN := p_N8 hd
  have hT := hd.1
  have hC1 := hd.2.2.2.1
  have hC2 := hd.2.2.2.2.1
  obtain ⟨h1, h2, h3, h4, h5, h6, h7, h8⟩ := id hP
  intro q
  induction q with
  | zero =>
    intro s n m hs hn hm
    obtain ⟨n, rfl⟩ : ∃ q, n = q + 1 := ⟨n - 1, by omega⟩
    obtain rfl : s = d.1 := by omega
    refine ⟨m, hm, ?_⟩
    rw [f_X2_countRuns_L25, h1, if_pos (by rw [i_le]; exact Int.le_refl _)]
  | succ q ih =>
    intro s n m hs hn hm
    obtain ⟨n, rfl⟩ : ∃ q, n = q + 1 := ⟨n - 1, by omega⟩
    have hli := p_lt_le hd hi
    rw [f_X2_countRuns_L25, h1, if_neg (by rw [i_le, i_n (by omega), i_n (by omega)]; omega), if_pos (x_inN (by omega) (by decide)), i_c (by omega), (h6 i hi).1, b_bit _ (ho i hi) s (by omega), nI_1]
    cases hb : (op i).testBit s with
    | false =>
      rw [if_neg (by decide)]
      refine ih (s + 1) n m (by omega) (by omega) ⟨hm.1, fun t ht hbt => ?_, ?_⟩
      · by_cases e : t = s
        · subst e; rw [hb] at hbt; cases hbt
        · exact hm.2.1 t (by omega) hbt
      · rcases hm.2.2 with e | ⟨t, ht, e⟩
        · exact Or.inl e
        · exact Or.inr ⟨t, by omega, e⟩
    | true =>
      have hlv := q_lv_lt (d := d) (op := op) (cp := cp) s hC1 4 (i + d.2.2.1) (p_lt d i) (by omega)
      have hfl := hf (q_lv d op cp s 4 (i + d.2.2.1) (p_lt d i))
      have hm1 := hm.1
      rw [if_pos (by decide), (h6 i hi).2, c_leaves hd hP ho hcp (by omega) hi (by omega), x_b2_some, if_pos (x_inN (by omega) (by decide)), i_c (by omega), h8 _ hlv]
      by_cases c : f (q_lv d op cp s 4 (i + d.2.2.1) (p_lt d i)) < m
      · rw [if_pos (by rw [i_lt, i_n (by omega), i_n (by omega)]; omega)]
        refine ih (s + 1) n _ (by omega) (by omega) ⟨by omega, fun t ht hbt => ?_, Or.inr ⟨s, by omega, hb, rfl⟩⟩
        by_cases e : t = s
        · subst e; exact Nat.le_refl _
        · have := hm.2.1 t (by omega) hbt; omega
      · rw [if_neg (by rw [i_lt, i_n (by omega), i_n (by omega)]; omega)]
        refine ih (s + 1) n m (by omega) (by omega) ⟨hm.1, fun t ht hbt => ?_, ?_⟩
        · by_cases e : t = s
          · subst e; omega
          · exact hm.2.1 t (by omega) hbt
        · rcases hm.2.2 with e | ⟨t, ht, e⟩
          · exact Or.inl e
          · exact Or.inr ⟨t, by omega, e⟩
def q_rc (d : sT) (op cp ru : Nat → Nat) (j : Nat) : Prop := 1 ≤ ru j ∧ ru j ≤ 1001 ∧ (∀ t, t < d.1 → (op j).testBit t = true → ru j ≤ 1 + ru (q_lv d op cp t 4 (j + d.2.2.1) (p_lt d j))) ∧ (ru j = 1001 ∨ ∃ t, t < d.1 ∧ (op j).testBit t = true ∧ ru j = 1 + ru (q_lv d op cp t 4 (j + d.2.2.1) (p_lt d j)))
theorem c_run15 (hd : okT d) (ho : ∀ j, j < p_N d → op j < 64) (hcp : ∀ t, t < d.1 → cp t ≤ 1000) : ∀ (j n : Nat) (V : xV) (f : Nat → Nat), j ≤ p_N d → j < n → qP d op cp f fo fr any V → (∀ k, f k ≤ 1001) → (∀ i, p_N d ≤ i → f i = 0) → (∀ i, j ≤ i → i < p_N d → q_rc d op cp f i) → ∃ V' f', f_X2_countRuns_L15 n (fun _ V => some V) (nI j - 1) V = some V' ∧ qP d op cp f' fo fr any V' ∧ q_ru d op cp f' ∧ ∀ a, a ≠ 84 → V' a = V a := by
  have hN := p_N8 hd
  have hT := hd.1
  have hC1 := hd.2.2.2.1
  have hC2 := hd.2.2.2.2.1
  intro j
  induction j with
  | zero =>
    intro n V f hj hn hP hf h0 hc
    obtain ⟨n, rfl⟩ : ∃ q, n = q + 1 := ⟨n - 1, by omega⟩
    refine ⟨V, f, ?_, hP, ⟨h0, fun i hi => hc i (Nat.zero_le _) hi⟩, fun _ _ => rfl⟩
    rw [f_X2_countRuns_L15, if_pos (by decide)]
  | succ i ih =>
    intro n V f hj hn hP hf h0 hc
    obtain ⟨n, rfl⟩ : ∃ q, n = q + 1 := ⟨n - 1, by omega⟩
    have em : nI (i + 1) - 1 = nI i := by rw [← nI_1, Int32.add_sub_cancel]
    obtain ⟨m, hm, e⟩ := c_run25 hd ho hcp hP hf (show i < p_N d by omega) (k := fun l2_11 l3_12 V13 => if x_in (nI i) 10 = true then (f_X2_countRuns_L15 n (fun _ V => some V) ((nI i) + (-1 : Int32)) (x_up V13 84 ((nI i).toNatClampNeg) ((1 : Int32) + l2_11))) else none) d.1 0 300 1000 rfl (by omega) ⟨Nat.le_refl _, fun t ht => by omega, Or.inl rfl⟩
    have lvne : ∀ k t s, i ≤ k → q_lv d op cp t 4 (k + d.2.2.1) s ≠ i := by
      intro k t s hk
      obtain ⟨q, -, e⟩ := q_lv_case d op cp t 4 (k + d.2.2.1) s
      omega
    have hfe : ∀ k, k ≠ i → (if k = i then 1 + m else f k) = f k := fun k hk => if_neg hk
    obtain ⟨V', f', g1, g2, g3, g4⟩ := ih n (x_up V 84 i (nI (1 + m))) (fun k => if k = i then 1 + m else f k) (by omega) (by omega) (by
      obtain ⟨h1, h2, h3, h4, h5, h6, h7, h8⟩ := hP
      refine ⟨by rw [up_a (by decide)]; exact h1, by rw [up_a (by decide)]; exact h2, by rw [up_a (by decide)]; exact h3, by rw [up_a (by decide)]; exact h4, by rw [up_a (by decide)]; exact h5, fun q hq => by rw [up_a (by decide), up_a (by decide)]; exact h6 q hq, fun q hq => by rw [up_a (by decide), up_a (by decide)]; exact h7 q hq, fun q hq => ?_⟩
      by_cases e : q = i
      · subst e; rw [up_eq]; simp
      · rw [up_k e, h8 q hq]; simp [e]) (fun k => by
        have := hm.1
        have := hf k
        by_cases e : k = i
        · simp only [e, if_true]; omega
        · rw [hfe k e]; omega) (fun k hk => by rw [hfe k (by omega)]; exact h0 k hk) (fun k hk hkN => by
        have r : ∀ t, (if q_lv d op cp t 4 (k + d.2.2.1) (p_lt d k) = i then 1 + m else f (q_lv d op cp t 4 (k + d.2.2.1) (p_lt d k))) = f (q_lv d op cp t 4 (k + d.2.2.1) (p_lt d k)) := fun t => if_neg (lvne k t _ hk)
        unfold q_rc
        simp only [r]
        by_cases e : k = i
        · subst e
          simp only [if_true]
          have := hm.1
          refine ⟨by omega, by omega, fun t ht hb => by have := hm.2.1 t ht hb; omega, ?_⟩
          rcases hm.2.2 with q | ⟨t, ht, hb, q⟩
          · exact Or.inl (by omega)
          · exact Or.inr ⟨t, ht, hb, by omega⟩
        · rw [hfe k e]
          exact hc k (by omega) hkN)
    refine ⟨V', f', ?_, g2, g3, fun a ha => by rw [g4 a ha, up_a ha]⟩
    rw [em, f_X2_countRuns_L15, if_neg (by rw [i_lt, i_n (by omega), i_0]; omega)]
    refine e.trans ?_
    show (if x_in (nI i) 10 = true then _ else none) = _
    rw [if_pos (x_inN (by omega) (by decide)), i_c (by omega), show (1 : Int32) + nI m = nI (1 + m) from nI_add 1 m, show nI i + (-1) = nI i - 1 from (Int32.sub_eq_add_neg _ _).symm]
    exact g1
end RU
