def w_loan (w : sW) (t : Nat) (n : Option (Nat × Nat)) : sW := (w.1, fun k => if k = t then n else w.2.1 k, w.2.2)
theorem okW_loan {d : sT} {w : sW} (h : okW d w) {t : Nat} (ht : t < d.1) {n : Option (Nat × Nat)} (hn : ∀ p, n = some p → p.1 ≤ p.2 ∧ p.2 < d.2.1) : okW d (w_loan w t n) := by
  refine ⟨h.1, fun k p hk hp => ?_, h.2.2⟩
  by_cases hc : k = t
  · subst hc
    simp only [w_loan, if_true] at hp
    exact ⟨ht, hn p hp⟩
  · simp only [w_loan, hc, if_false] at hp
    exact h.2.1 k p hk hp
theorem loan_inj {a b : Option (Nat × Nat)} (ha : ∀ p, a = some p → p.1 < 2000 ∧ p.2 < 2000) (hb : ∀ p, b = some p → p.1 < 2000 ∧ p.2 < 2000) (h1 : lF a = lF b) (h2 : lT a = lT b) : a = b := by
  cases a with
  | none => cases b with
    | none => rfl
    | some y => exfalso; have := (hb y rfl).1; simp only [lF, i_eq, i_n this, show (-9 : Int32).toInt = -9 from rfl] at h1; omega
  | some x => cases b with
    | none => exfalso; have := (ha x rfl).1; simp only [lF, i_eq, i_n this, show (-9 : Int32).toInt = -9 from rfl] at h1; omega
    | some y =>
      have e1 := i_inj (ha x rfl).1 (hb y rfl).1 h1
      have e2 := i_inj (ha x rfl).2 (hb y rfl).2 h2
      rw [show x = y from Prod.ext e1 e2]
def loanN (o : Option (Nat × Nat)) : Int32 := match o with
  | none => -9
  | some p => nI (10 * p.1 + p.2)
theorem c_loanN {V : xV} {t : Nat} {o : Option (Nat × Nat)} (ht : t < 6) (h1 : V 7 t = lF o) (h2 : V 8 t = lT o) (hb : ∀ p, o = some p → p.1 < 2000) : f_X4_loanAsNumber_5 (nI t) V = some (loanN o, V) := by
  unfold f_X4_loanAsNumber_5
  rw [if_pos (x_inN ht (by decide)), i_c (by omega), h1, h2]
  cases o with
  | none => rw [if_pos (by decide)]; rfl
  | some p =>
    have := hb p rfl
    rw [if_neg (by simp only [lF, i_eq, i_n this, show (-9 : Int32).toInt = -9 from rfl]; omega)]
    simp only [lF, lT, loanN]
    rw [show (10 : Int32) = nI 10 from rfl, pk_mul, nI_add]
theorem lends_main {x : List Int32} {d : sT} {w : sW} {hi : List sW} {im : Option sW × Option sW} {se : List Int32} (hz : okS (x, d, w, hi, im, se)) {t : Nat} (ht : t < d.1) {n : Option (Nat × Nat)} (hn : ∀ p, n = some p → p.1 ≤ p.2 ∧ p.2 < d.2.1) {f : xV → Option (Int32 × xV)} {g : xV → Option (Int32 × xV)}
    (hf : ∀ V, cTo V d → ∃ l2 l3 l4 l5, f V = f_X6_lends_J90 (nI t) l2 l3 l4 l5 (lF n) (lT n) V) (hg : ∀ V, mTo (x_up V 96 0 0) d → ∃ l2 l3 l4, g V = f_X7_lends_J84 (nI t) l2 l3 l4 (lF n) (lT n) (x_up V 96 0 0)) : stp f (fun _ => g) (x, d, w, hi, im, se) := by
  obtain ⟨o1, o2, o3, o4, o5, o6, o7, o8, o9⟩ := hz.split
  obtain ⟨t1, t2, t3, t4, t5, t6, t7⟩ := id o3
  have hwb : ∀ p, w.2.1 t = some p → p.1 < 2000 ∧ p.2 < 2000 := fun p hp => by have := o4.2.1 t p (by omega) hp; omega
  have hnb : ∀ p, n = some p → p.1 < 2000 ∧ p.2 < 2000 := fun p hp => by have := hn p hp; omega
  have e8 : (8 : Int32) + nI t = nI (8 + t) := nI_add 8 t
  have e14 : (14 : Int32) + nI t = nI (14 + t) := nI_add 14 t
  by_cases hsame : w.2.1 t = n
  · refine stp.same hz (-2) (fun V h => ?_) (fun V h => ?_)
    · obtain ⟨-, h2, h3, -⟩ := h.split
      obtain ⟨l2, l3, l4, l5, e⟩ := hf V h2
      obtain ⟨g1, g2, -⟩ := h3.2.1 t (by omega)
      rw [e]
      unfold f_X6_lends_J90
      rw [if_pos (x_inN (by omega) (by decide)), i_c (by omega), if_pos (by rw [← hsame]; exact g1), if_pos (by rw [← hsame]; exact g2)]
    · obtain ⟨-, h2, h3, -⟩ := h.th.split
      obtain ⟨l2, l3, l4, e⟩ := hg V h2
      obtain ⟨g1, g2, -⟩ := h3.2.1 t (by omega)
      rw [Nat.zero_add] at g1 g2
      show g V = _
      rw [e]
      unfold f_X7_lends_J84
      rw [e8, e14, if_pos (x_inN (by omega) (by decide)), i_c (by omega), if_pos (by rw [← hsame]; exact g1), if_pos (x_inN (by omega) (by decide)), i_c (by omega), if_pos (by rw [← hsame]; exact g2)]
  · have hne : ¬ (lF (w.2.1 t) = lF n ∧ lT (w.2.1 t) = lT n) := fun q => hsame (loan_inj hwb hnb q.1 q.2)
    refine stp.chg (w' := w_loan w t n) hz (okW_loan o4 ht hn) (loanN (w.2.1 t)) (fun V V' h hrm hw => ?_) (fun V V' h hrm e103 hw => ?_)
    · obtain ⟨-, h2, h3, -⟩ := h.split
      obtain ⟨l2, l3, l4, l5, e⟩ := hf V h2
      obtain ⟨g1, g2, -⟩ := h3.2.1 t (by omega)
      refine ⟨x_up (x_up V' 7 t (lF n)) 8 t (lT n), ?_, ⟨fun s c hs hc => by rw [up_a (by decide), up_a (by decide)]; exact hw.1 s c hs hc, fun k hk => ?_, by rw [up_a (by decide), up_a (by decide)]; exact hw.2.2⟩, fun q hq => by rw [up_a (by omega), up_a (by omega)]⟩
      · rw [e]
        unfold f_X6_lends_J90
        rw [if_pos (x_inN (by omega) (by decide)), i_c (by omega), c_loanN (by omega) g1 g2 (fun p hp => (hwb p hp).1), x_b2_some, hrm, x_b1_some, g1, g2]
        by_cases c1 : lF (w.2.1 t) = lF n
        · rw [if_pos c1, if_neg (fun q => hne ⟨c1, q⟩)]
        · rw [if_neg c1]
      · by_cases hk2 : k = t
        · subst hk2
          simp only [w_loan, if_true]
          refine ⟨by rw [up_a (by decide), up_eq], by rw [up_eq], by rw [up_a (by decide), up_a (by decide)]; exact (hw.2.1 k hk).2.2⟩
        · simp only [w_loan, hk2, if_false]
          refine ⟨by rw [up_a (by decide), up_k hk2]; exact (hw.2.1 k hk).1, by rw [up_k hk2, up_a (by decide)]; exact (hw.2.1 k hk).2.1, by rw [up_a (by decide), up_a (by decide)]; exact (hw.2.1 k hk).2.2⟩
    · obtain ⟨-, h2, h3, -⟩ := h.th.split
      obtain ⟨l2, l3, l4, e⟩ := hg V h2
      obtain ⟨g1, g2, -⟩ := h3.2.1 t (by omega)
      obtain ⟨k1, k2, -⟩ := hw.2.1 t (by omega)
      rw [Nat.zero_add] at g1 g2 k1 k2
      refine ⟨x_up (x_up V' 103 (8 + t) (lF n)) 103 (14 + t) (lT n), ?_, ⟨fun s c hs hc => ?_, fun k hk => ?_, ?_⟩, fun q hq => by rw [up_a hq, up_a hq]⟩
      · show g V = _
        rw [e]
        unfold f_X7_lends_J84
        rw [e8, e14, if_pos (x_inN (by omega) (by decide)), if_pos (x_inN (by omega) (by decide)), i_c (by omega), i_c (by omega), hrm, x_b1_some, x_b1_some, g1, g2, k1, k2]
        have fin : (if lF (w.2.1 t) = (-9 : Int32) then some ((-9 : Int32), x_up (x_up V' 103 (8 + t) (lF n)) 103 (14 + t) (lT n)) else some ((10 : Int32) * lF (w.2.1 t) + lT (w.2.1 t), x_up (x_up V' 103 (8 + t) (lF n)) 103 (14 + t) (lT n))) = some (loanN (w.2.1 t), x_up (x_up V' 103 (8 + t) (lF n)) 103 (14 + t) (lT n)) := by
          cases hq : w.2.1 t with
          | none => rw [if_pos (by decide)]; rfl
          | some p =>
            have := (hwb p hq).1
            rw [if_neg (by simp only [lF, i_eq, i_n this, show (-9 : Int32).toInt = -9 from rfl]; omega)]
            simp only [lF, lT, loanN]
            rw [show (10 : Int32) = nI 10 from rfl, pk_mul, nI_add]
        by_cases c1 : lF (w.2.1 t) = lF n
        · rw [if_pos c1, if_neg (fun q => hne ⟨c1, q⟩), fin]
        · rw [if_neg c1, if_pos (x_inN (by omega) (by decide)), if_pos (x_inN (by omega) (by decide)), fin]
      · rw [up_k (by omega), up_k (by omega)]
        exact hw.1 s c hs hc
      · obtain ⟨q1, q2, q3⟩ := hw.2.1 k hk
        by_cases hk2 : k = t
        · subst hk2
          simp only [w_loan, if_true]
          refine ⟨?_, ?_, ?_⟩
          · rw [Nat.zero_add, up_k (by omega), up_eq]
          · rw [Nat.zero_add, up_eq]
          · rw [up_k (by omega), up_k (by omega)]; exact q3
        · simp only [w_loan, hk2, if_false]
          refine ⟨?_, ?_, ?_⟩
          · rw [up_k (by omega), up_k (by omega)]; exact q1
          · rw [up_k (by omega), up_k (by omega)]; exact q2
          · rw [up_k (by omega), up_k (by omega)]; exact q3
      · rw [up_k (by omega), up_k (by omega)]
        exact hw.2.2
theorem st_lends (z : sS) (hz : okS z) (a b c : Int32) : stp (f_X6_lends a b c) (fun _ => f_X7_lends a b c) z := by
  obtain ⟨x, d, w, hi, im, se⟩ := z
  obtain ⟨o1, o2, o3, o4, o5, o6, o7, o8, o9⟩ := hz.split
  obtain ⟨t1, t2, t3, t4, t5, t6, t7⟩ := id o3
  -- seasons
  have J16 : ∀ V, cTo V d → ∀ l4, ((∃ f e, f ≤ e ∧ e < d.2.1 ∧ b = nI f ∧ c = nI e) ∧ f_X6_lends_J16 a b c l4 V = f_X6_lends_J44 a b c l4 1 V) ∨ ((¬ ∃ f e, f ≤ e ∧ e < d.2.1 ∧ b = nI f ∧ c = nI e) ∧ f_X6_lends_J16 a b c l4 V = f_X6_lends_J44 a b c l4 0 V) := by
    intro V h2 l4
    unfold f_X6_lends_J16
    rcases i_arg b (n := d.2.1) (by omega) with ⟨f, hf, rfl⟩ | hb
    · rw [c_se1 h2.2.1 hf (by omega), x_b2_some, if_neg (by decide)]
      rcases i_arg c (n := d.2.1) (by omega) with ⟨e, he, rfl⟩ | hc
      · rw [c_se1 h2.2.1 he (by omega), x_b2_some, if_neg (by decide)]
        by_cases hfe : f ≤ e
        · rw [if_neg (by rw [i_lt, i_n (by omega), i_n (by omega)]; omega)]
          exact Or.inl ⟨⟨f, e, hfe, he, rfl, rfl⟩, rfl⟩
        · rw [if_pos (by rw [i_lt, i_n (by omega), i_n (by omega)]; omega)]
          refine Or.inr ⟨?_, rfl⟩
          rintro ⟨f', e', q1, q2, q3, q4⟩
          have := i_inj (by omega) (by omega) q3
          have := i_inj (by omega) (by omega) q4
          omega
      · rw [c_se0 h2.2.1 (by omega) hc, x_b2_some, if_pos rfl]
        refine Or.inr ⟨?_, rfl⟩
        rintro ⟨f', e', q1, q2, q3, q4⟩
        rw [q4, i_n (by omega)] at hc
        omega
    · rw [c_se0 h2.2.1 (by omega) hb, x_b2_some, if_pos rfl]
      refine Or.inr ⟨?_, rfl⟩
      rintro ⟨f', e', q1, q2, q3, q4⟩
      rw [q3, i_n (by omega)] at hb
      omega
  have CF : ∀ V, f_X6_lends a b c V = f_X6_lends_J16 a b c (if b = 4 ∧ c = 0 then 1 else 0) V := by
    intro V
    unfold f_X6_lends
    by_cases h1 : b = 4
    · rw [if_pos h1]
      by_cases h2 : c = 0
      · rw [if_pos h2, if_pos ⟨h1, h2⟩]
      · rw [if_neg h2, if_neg (fun q => h2 q.2)]
    · rw [if_neg h1, if_neg (fun q => h1 q.1)]
  have MF : ∀ V, f_X7_lends a b c V = f_X7_lends_J21 a b c (if b = 4 ∧ c = 0 then 1 else 0) (x_up V 96 0 0) := by
    intro V
    unfold f_X7_lends
    by_cases h1 : b = 4
    · rw [if_pos h1]
      by_cases h2 : c = 0
      · rw [if_pos h2, if_pos ⟨h1, h2⟩]
      · rw [if_neg h2, if_neg (fun q => h2 q.2)]
    · rw [if_neg h1, if_neg (fun q => h1 q.1)]
  rcases i_arg a (n := d.1) (by omega) with ⟨t, ht, rfl⟩ | ha
  · by_cases hend : b = 4 ∧ c = 0
    · refine lends_main (n := none) hz ht (fun p hp => by cases hp) (fun V h2 => ?_) (fun V h2 => ?_)
      · rw [CF V, if_pos hend]
        have key : ∀ l5, f_X6_lends_J44 (nI t) b c 1 l5 V = f_X6_lends_J90 (nI t) b c 1 l5 (-9) (-9) V := by
          intro l5
          unfold f_X6_lends_J44
          rw [c_th1 h2.1 ht (by omega), x_b2_some, if_neg (by decide), if_neg (by decide)]
          unfold f_X6_lends_J77
          rw [if_neg (by decide)]
        rcases J16 V h2 1 with ⟨-, e⟩ | ⟨-, e⟩
        · exact ⟨_, _, _, _, e.trans (key 1)⟩
        · exact ⟨_, _, _, _, e.trans (key 0)⟩
      · rw [MF V, if_pos hend]
        refine ⟨b, c, 1, ?_⟩
        unfold f_X7_lends_J21
        rw [m_th1 h2.1 ht (by omega), x_b2_some, if_neg (by decide), if_neg (by decide)]
        unfold f_X7_lends_J71
        rw [if_neg (by decide)]
        rfl
    · by_cases hsp : ∃ f e, f ≤ e ∧ e < d.2.1 ∧ b = nI f ∧ c = nI e
      · obtain ⟨f, e, hfe, he, rfl, rfl⟩ := hsp
        refine lends_main (n := some (f, e)) hz ht (fun p hp => by cases hp; exact ⟨hfe, he⟩) (fun V h2 => ?_) (fun V h2 => ?_)
        · rw [CF V, if_neg hend]
          rcases J16 V h2 0 with ⟨-, q⟩ | ⟨q, -⟩
          · refine ⟨nI f, nI e, 0, 1, ?_⟩
            rw [q]
            unfold f_X6_lends_J44
            rw [c_th1 h2.1 ht (by omega), x_b2_some, if_neg (by decide), if_pos rfl, if_neg (by decide)]
            unfold f_X6_lends_J77
            rw [if_pos rfl]
            rfl
          · exact absurd ⟨f, e, hfe, he, rfl, rfl⟩ q
        · rw [MF V, if_neg hend]
          refine ⟨nI f, nI e, 0, ?_⟩
          unfold f_X7_lends_J21
          rw [m_th1 h2.1 ht (by omega), x_b2_some, if_neg (by decide), if_pos rfl, m_se1 h2.2.1 (show f < d.2.1 by omega) (by omega), x_b2_some, if_neg (by decide), h2.2.1, m_inT (by rw [i_n (by omega), i_n (by omega)]; omega) (by rw [i_n (by omega), show (1 : Int32) = nI 1 from rfl, i_s (by omega) (by omega)]; omega), x_b2_some, if_neg (by decide)]
          unfold f_X7_lends_J71
          rw [if_pos rfl]
          rfl
      · refine stp.same hz (-1) (fun V h => ?_) (fun V h => ?_)
        · obtain ⟨-, h2, h3, -⟩ := h.split
          rw [CF V, if_neg hend]
          rcases J16 V h2 0 with ⟨q, -⟩ | ⟨-, q⟩
          · exact absurd q hsp
          · rw [q]
            unfold f_X6_lends_J44
            rw [c_th1 h2.1 ht (by omega), x_b2_some, if_neg (by decide), if_pos rfl, if_pos rfl]
        · obtain ⟨-, h2, h3, -⟩ := h.th.split
          show f_X7_lends _ _ _ V = _
          rw [MF V, if_neg hend]
          unfold f_X7_lends_J21
          rw [m_th1 h2.1 ht (by omega), x_b2_some, if_neg (by decide), if_pos rfl]
          rcases i_arg b (n := d.2.1) (by omega) with ⟨f, hf, rfl⟩ | hb
          · rw [m_se1 h2.2.1 hf (by omega), x_b2_some, if_neg (by decide), h2.2.1]
            rw [m_inF (by
              rw [i_n (by omega), show (1 : Int32) = nI 1 from rfl, i_s (by omega) (by omega)]
              rcases i_arg c (n := d.2.1) (by omega) with ⟨e, he, rfl⟩ | hc
              · rw [i_n (by omega)]
                have : ¬ f ≤ e := fun q => hsp ⟨f, e, q, he, rfl, rfl⟩
                omega
              · omega)]
            rfl
          · rw [m_se0 h2.2.1 (by omega) hb]
            rfl
  · refine stp.same hz (-1) (fun V h => ?_) (fun V h => ?_)
    · obtain ⟨-, h2, h3, -⟩ := h.split
      have key : ∀ l4 l5, f_X6_lends_J44 a b c l4 l5 V = some (-1, V) := by
        intro l4 l5
        unfold f_X6_lends_J44
        rw [c_th0 h2.1 (by omega) ha]
        rfl
      rw [CF V]
      rcases J16 V h2 (if b = 4 ∧ c = 0 then 1 else 0) with ⟨-, q⟩ | ⟨-, q⟩
      · rw [q, key]
      · rw [q, key]
    · obtain ⟨-, h2, h3, -⟩ := h.th.split
      show f_X7_lends _ _ _ V = _
      rw [MF V]
      unfold f_X7_lends_J21
      rw [m_th0 h2.1 (by omega) ha]
      rfl
