/-! bits -/
theorem b_bit : ∀ b, b < 64 → ∀ u, u < 6 → ((nI b >>> (nI u &&& 31)) &&& 1) = nI (if b.testBit u then 1 else 0) := by decide +kernel
theorem b_one : ∀ u, u < 6 → (1 : Int32) <<< (nI u &&& 31) = nI (2 ^ u) := by decide +kernel
theorem b_xor' : ∀ b, b < 64 → ∀ u, u < 6 → nI b ^^^ ((1 : Int32) <<< (nI u &&& 31)) = nI (b ^^^ 2 ^ u) := by decide +kernel
theorem b_lt : ∀ b, b < 64 → ∀ u, u < 6 → b ^^^ 2 ^ u < 64 := by decide +kernel
theorem b_lt16 : ∀ b, b < 16 → ∀ u, u < 4 → b ^^^ 2 ^ u < 16 := by decide +kernel
theorem b_tb (b u k : Nat) : (b ^^^ 2 ^ u).testBit k = (b.testBit k ^^ decide (u = k)) := by rw [Nat.testBit_xor, Nat.testBit_two_pow]
def bI (p : Bool) : Int32 := nI (if p then 1 else 0)
theorem bI_t : bI true = 1 := rfl
theorem bI_f : bI false = 0 := rfl
theorem m_has {V : xV} {b u : Nat} (hb : b < 64) (hu : u < 6) : f_X7_has (nI b) (nI u) V = some (bI (b.testBit u), V) := by
  unfold f_X7_has
  rw [b_bit b hb u hu]
  cases b.testBit u
  · rw [if_neg (by decide)]; rfl
  · rw [if_pos (by decide)]; rfl
theorem m_on {V : xV} {b u : Nat} (h : V 103 26 = nI b) (hb : b < 16) (hu : u < 4) : f_X7_isOn (nI u) V = some (bI (b.testBit u), V) := by
  unfold f_X7_isOn
  rw [h, m_has (by omega) (by omega), x_b2_some]
  cases b.testBit u
  · rw [if_pos (by decide)]
  · rw [if_pos (by decide)]
theorem c_on {V : xV} {b u : Nat} (h : V 5 4 = nI b) (hb : b < 16) (hu : u < 4) : f_X4_isOn_5 (nI u) V = some (bI (b.testBit u), V) := by
  unfold f_X4_isOn_5
  rw [h, b_bit b (by omega) u (by omega)]
  cases b.testBit u
  · rw [if_neg (by decide)]; rfl
  · rw [if_pos (by decide)]; rfl
theorem c_barred {V : xV} {b t u : Nat} (h : V 9 t = nI b) (hb : b < 64) (ht : t < 6) (hu : u < 6) : f_X4_isBarred_5 (nI t) (nI u) V = some (bI (b.testBit u), V) := by
  unfold f_X4_isBarred_5
  rw [if_pos (x_inN ht (by decide)), i_c (by omega), h, b_bit b hb u hu]
  cases b.testBit u
  · rw [if_neg (by decide)]; rfl
  · rw [if_pos (by decide)]; rfl
theorem st_rules (z : sS) (hz : okS z) (a : Int32) : stp (f_X6_rules a) (fun _ => f_X7_rules a) z := by
  obtain ⟨x, d, w, hi, im, se⟩ := z
  obtain ⟨o1, o2, o3, o4, o5, o6, o7, o8, o9⟩ := hz.split
  rcases i_arg a (n := 4) (by decide) with ⟨u, hu, rfl⟩ | ha
  · have hr : w.2.2.2 < 16 := o4.2.2.2.2.2.2
    have hr2 := b_lt16 _ hr u hu
    have ex := b_xor' w.2.2.2 (by omega) u (by omega)
    refine stp.chg (w' := (w.1, w.2.1, w.2.2.1, w.2.2.2 ^^^ 2 ^ u)) hz ⟨o4.1, o4.2.1, o4.2.2.1, o4.2.2.2.1, o4.2.2.2.2.1, o4.2.2.2.2.2.1, hr2⟩ (bI ((w.2.2.2 ^^^ 2 ^ u).testBit u)) (fun V V' h hrm hw => ?_) (fun V V' h hrm e103 hw => ?_)
    · refine ⟨x_up V' 5 4 (nI (w.2.2.2 ^^^ 2 ^ u)), ?_, ⟨fun s b hs hb => by rw [up_a (by decide)]; exact hw.1 s b hs hb, fun t ht => by rw [up_a (by decide), up_a (by decide), up_a (by decide)]; exact hw.2.1 t ht, up_eq⟩, fun q hq => up_a (by omega)⟩
      unfold f_X6_rules
      rw [if_neg (by rw [i_lt, i_n (by omega), i_0]; omega), if_pos (by rw [i_lt, i_n (by omega), show (4 : Int32).toInt = 4 from rfl]; omega), hrm, x_b1_some, hw.2.2, ex, c_on up_eq hr2 hu, x_b2_some]
      cases (w.2.2.2 ^^^ 2 ^ u).testBit u
      · rw [if_pos bI_f]; rfl
      · rw [if_neg (by decide)]; rfl
    · have h26 := hw.2.2
      rw [Nat.zero_add] at h26
      refine ⟨x_up V' 103 26 (nI (w.2.2.2 ^^^ 2 ^ u)), ?_, ⟨fun s b hs hb => ?_, fun t ht => ?_, ?_⟩, fun q hq => up_a hq⟩
      · show f_X7_rules _ V = _
        unfold f_X7_rules
        rw [m_inT (by rw [i_n (by omega), i_0]; omega) (by rw [i_n (by omega), show (3 : Int32).toInt = 3 from rfl]; omega), x_b2_some, if_neg (by decide), hrm, x_b1_some, h26, ex, b_bit _ (by omega) u (by omega)]
        rfl
      · obtain ⟨-, -, d1, -, d2, -⟩ := o3
        rw [up_k (by omega)]
        exact hw.1 s b hs hb
      · rw [up_k (by omega), up_k (by omega), up_k (by omega)]
        exact hw.2.1 t ht
      · rw [Nat.zero_add]
        exact up_eq
  · refine stp.same hz (-1) (fun V h => ?_) (fun V h => ?_)
    · unfold f_X6_rules
      by_cases h0 : a < 0
      · rw [if_pos h0]
      · rw [if_neg h0, if_neg (by rw [i_lt, i_0] at h0; rw [i_lt, show (4 : Int32).toInt = 4 from rfl]; omega)]
    · show f_X7_rules _ V = _
      unfold f_X7_rules
      rw [m_inF (by rw [i_0, show (3 : Int32).toInt = 3 from rfl]; omega)]
      rfl
def w_pair (w : sW) (t u : Nat) : sW := (w.1, w.2.1, fun k => if k = t then w.2.2.1 t ^^^ 2 ^ u else if k = u then w.2.2.1 u ^^^ 2 ^ t else w.2.2.1 k, w.2.2.2)
theorem w_pair_tb {w : sW} {t u : Nat} (htu : t ≠ u) (k j : Nat) : ((w_pair w t u).2.2.1 k).testBit j = ((w.2.2.1 k).testBit j ^^ (decide (k = t ∧ j = u) || decide (k = u ∧ j = t))) := by
  simp only [w_pair]
  by_cases h1 : k = t
  · subst h1
    rw [if_pos rfl, b_tb]
    congr 1
    by_cases h2 : j = u
    · subst h2; simp
    · simp [h2, Ne.symm h2, htu]
  · rw [if_neg h1]
    by_cases h2 : k = u
    · subst h2
      rw [if_pos rfl, b_tb]
      congr 1
      by_cases h3 : j = t
      · subst h3; simp
      · simp [h3, Ne.symm h3, Ne.symm htu]
    · rw [if_neg h2]
      simp [h1, h2]
theorem okW_pair {d : sT} {w : sW} (h : okW d w) {t u : Nat} (ht : t < d.1) (hu : u < d.1) (h6 : d.1 ≤ 6) (htu : t ≠ u) : okW d (w_pair w t u) := by
  obtain ⟨h1, h2, h3, h4, h5, h6', h7⟩ := h
  refine ⟨h1, h2, fun k j hk hj => ?_, fun k hk => ?_, fun k j hk hb => ?_, fun k hk => ?_, h7⟩
  · rw [w_pair_tb htu, w_pair_tb htu, h3 k j hk hj]
    congr 1
    rw [Bool.or_comm]
    congr 1 <;> (apply decide_eq_decide.mpr; exact And.comm)
  · rw [w_pair_tb htu, h4 k hk]
    have e1 : ¬ (k = t ∧ k = u) := fun q => htu (q.1.symm.trans q.2)
    have e2 : ¬ (k = u ∧ k = t) := fun q => htu (q.2.symm.trans q.1)
    simp [e1, e2]
  · rw [w_pair_tb htu] at hb
    by_cases c1 : k = t ∧ j = u
    · exact ⟨by omega, by omega⟩
    · by_cases c2 : k = u ∧ j = t
      · exact ⟨by omega, by omega⟩
      · simp only [c1, c2, decide_false, Bool.or_false, Bool.xor_false] at hb
        exact h5 k j hk hb
  · simp only [w_pair]
    by_cases c1 : k = t
    · rw [if_pos c1]; exact b_lt _ (h6' t (by omega)) u (by omega)
    · rw [if_neg c1]
      by_cases c2 : k = u
      · rw [if_pos c2]; exact b_lt _ (h6' u (by omega)) t (by omega)
      · rw [if_neg c2]; exact h6' k hk
theorem st_pairs (z : sS) (hz : okS z) (a b : Int32) : stp (f_X6_pairs a b) (fun _ => f_X7_pairs a b) z := by
  obtain ⟨x, d, w, hi, im, se⟩ := z
  obtain ⟨o1, o2, o3, o4, o5, o6, o7, o8, o9⟩ := hz.split
  obtain ⟨t1, t2, t3, t4, t5, t6, t7⟩ := id o3
  rcases i_arg a (n := d.1) (by omega) with ⟨t, ht, rfl⟩ | ha
  · rcases i_arg b (n := d.1) (by omega) with ⟨u, hu, rfl⟩ | hb
    · by_cases htu : t = u
      · subst htu
        refine stp.same hz (-1) (fun V h => ?_) (fun V h => ?_)
        · obtain ⟨-, h2, h3, -⟩ := h.split
          unfold f_X6_pairs
          rw [c_th1 h2.1 ht (by omega), x_b2_some, if_neg (by decide), c_th1 h2.1 ht (by omega), x_b2_some, if_neg (by decide), if_pos rfl]
        · obtain ⟨-, h2, h3, -⟩ := h.th.split
          show f_X7_pairs _ _ V = _
          unfold f_X7_pairs
          rw [m_th1 h2.1 ht (by omega), x_b2_some, if_neg (by decide), m_th1 h2.1 ht (by omega), x_b2_some, if_neg (by decide), if_pos rfl]
      · have hnI : ¬ nI t = nI u := fun q => htu (i_inj (by omega) (by omega) q)
        have bt := o4.2.2.2.2.2.1 t (by omega)
        have bu := o4.2.2.2.2.2.1 u (by omega)
        have lt1 := b_lt _ bt u (by omega)
        refine stp.chg (w' := w_pair w t u) hz (okW_pair o4 ht hu t1 htu) (bI ((w.2.2.1 t ^^^ 2 ^ u).testBit u)) (fun V V' h hrm hw => ?_) (fun V V' h hrm e103 hw => ?_)
        · obtain ⟨-, h2, h3, -⟩ := h.split
          refine ⟨x_up (x_up V' 9 t (nI (w.2.2.1 t ^^^ 2 ^ u))) 9 u (nI (w.2.2.1 u ^^^ 2 ^ t)), ?_, ⟨fun s e hs he => by rw [up_a (by decide), up_a (by decide)]; exact hw.1 s e hs he, fun k hk => ⟨by rw [up_a (by decide), up_a (by decide)]; exact (hw.2.1 k hk).1, by rw [up_a (by decide), up_a (by decide)]; exact (hw.2.1 k hk).2.1, ?_⟩, by rw [up_a (by decide), up_a (by decide)]; exact hw.2.2⟩, fun q hq => by rw [up_a (by omega), up_a (by omega)]⟩
          · unfold f_X6_pairs f_X4_turnPair_5
            rw [c_th1 h2.1 ht (by omega), x_b2_some, if_neg (by decide), c_th1 h2.1 hu (by omega), x_b2_some, if_neg (by decide), if_neg hnI, hrm, x_b1_some, if_pos (x_inN (by omega) (by decide)), if_pos (x_inN (by omega) (by decide)), i_c (by omega), i_c (by omega), x_b1_some, (hw.2.1 t (by omega)).2.2, b_xor' _ bt u (by omega), up_k (Ne.symm htu), (hw.2.1 u (by omega)).2.2, b_xor' _ bu t (by omega), c_barred (b := w.2.2.1 t ^^^ 2 ^ u) (by rw [up_k htu, up_eq]) lt1 (by omega) (by omega), x_b2_some]
            cases (w.2.2.1 t ^^^ 2 ^ u).testBit u
            · rw [if_pos bI_f]; rfl
            · rw [if_neg (by decide)]; rfl
          · by_cases c2 : k = u
            · subst c2
              simp only [w_pair, Ne.symm htu, if_false, if_true]
              exact up_eq
            · by_cases c1 : k = t
              · subst c1
                simp only [w_pair, if_true]
                rw [up_k c2]
                exact up_eq
              · simp only [w_pair, c1, c2, if_false]
                rw [up_k c2, up_k c1]
                exact (hw.2.1 k hk).2.2
        · obtain ⟨-, h2, h3, -⟩ := h.th.split
          have g1 := (hw.2.1 t (by omega)).2.2
          have g2 := (hw.2.1 u (by omega)).2.2
          rw [Nat.zero_add] at g1 g2
          refine ⟨x_up (x_up V' 103 (20 + t) (nI (w.2.2.1 t ^^^ 2 ^ u))) 103 (20 + u) (nI (w.2.2.1 u ^^^ 2 ^ t)), ?_, ⟨fun s e hs he => ?_, fun k hk => ⟨?_, ?_, ?_⟩, ?_⟩, fun q hq => by rw [up_a hq, up_a hq]⟩
          · show f_X7_pairs _ _ V = _
            unfold f_X7_pairs
            rw [m_th1 h2.1 ht (by omega), x_b2_some, if_neg (by decide), m_th1 h2.1 hu (by omega), x_b2_some, if_neg (by decide), if_neg hnI, hrm, x_b1_some, show (20 : Int32) + nI t = nI (20 + t) from nI_add 20 t, show (20 : Int32) + nI u = nI (20 + u) from nI_add 20 u, if_pos (x_inN (by omega) (by decide)), if_pos (x_inN (by omega) (by decide)), i_c (by omega), i_c (by omega), g1, b_xor' _ bt u (by omega), up_k (by omega), up_eq, up_k (by omega), g2, b_xor' _ bu t (by omega), b_bit _ lt1 u (by omega)]
            rfl
          · rw [up_k (by omega), up_k (by omega)]
            exact hw.1 s e hs he
          · rw [up_k (by omega), up_k (by omega)]
            exact (hw.2.1 k hk).1
          · rw [up_k (by omega), up_k (by omega)]
            exact (hw.2.1 k hk).2.1
          · rw [Nat.zero_add]
            by_cases c2 : k = u
            · subst c2
              simp only [w_pair, Ne.symm htu, if_false, if_true]
              exact up_eq
            · by_cases c1 : k = t
              · subst c1
                simp only [w_pair, if_true]
                rw [up_k (by omega)]
                exact up_eq
              · simp only [w_pair, c1, c2, if_false]
                rw [up_k (by omega), up_k (by omega)]
                have := (hw.2.1 k hk).2.2
                rw [Nat.zero_add] at this
                exact this
          · rw [up_k (by omega), up_k (by omega)]
            exact hw.2.2
    · refine stp.same hz (-1) (fun V h => ?_) (fun V h => ?_)
      · obtain ⟨-, h2, h3, -⟩ := h.split
        unfold f_X6_pairs
        rw [c_th1 h2.1 ht (by omega), x_b2_some, if_neg (by decide), c_th0 h2.1 (by omega) hb]
        rfl
      · obtain ⟨-, h2, h3, -⟩ := h.th.split
        show f_X7_pairs _ _ V = _
        unfold f_X7_pairs
        rw [m_th1 h2.1 ht (by omega), x_b2_some, if_neg (by decide), m_th0 h2.1 (by omega) hb]
        rfl
  · refine stp.same hz (-1) (fun V h => ?_) (fun V h => ?_)
    · obtain ⟨-, h2, h3, -⟩ := h.split
      unfold f_X6_pairs
      rw [c_th0 h2.1 (by omega) ha]
      rfl
    · obtain ⟨-, h2, h3, -⟩ := h.th.split
      show f_X7_pairs _ _ V = _
      unfold f_X7_pairs
      rw [m_th0 h2.1 (by omega) ha]
      rfl
