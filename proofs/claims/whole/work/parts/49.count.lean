/-! count -/
def tbN (b u : Nat) : Nat := if b.testBit u then 1 else 0
theorem b_count {V : xV} : ∀ b, b < 64 → f_J6_bitCount (nI b) V = some (nI (tbN b 0 + tbN b 1 + tbN b 2 + tbN b 3 + tbN b 4 + tbN b 5), V) := by
  have key : ∀ b, b < 64 → (f_J6_bitCount (nI b) (fun _ _ => 0)).map (fun q => q.1) = some (nI (tbN b 0 + tbN b 1 + tbN b 2 + tbN b 3 + tbN b 4 + tbN b 5)) := by decide +kernel
  intro b hb
  have h := key b hb
  unfold f_J6_bitCount at h ⊢
  simp only [Option.map_some, Option.some.injEq] at h
  rw [h]
/-- barred pairs of t with lower ones, below u -/
def bp1 (w : sW) (t : Nat) : Nat → Nat
  | 0 => 0
  | u + 1 => bp1 w t u + tbN (w.2.2.1 t) u
def bp2 (w : sW) : Nat → Nat
  | 0 => 0
  | t + 1 => bp2 w t + bp1 w t t
theorem bp1_le (w : sW) (t u : Nat) : bp1 w t u ≤ u := by
  induction u with
  | zero => exact Nat.le_refl _
  | succ u ih =>
    simp only [bp1, tbN]
    split <;> omega
theorem bp2_le (w : sW) (t : Nat) (ht : t ≤ 6) : bp2 w t ≤ 6 * t := by
  induction t with
  | zero => exact Nat.le_refl _
  | succ t ih =>
    have := bp1_le w t t
    have := ih (by omega)
    simp only [bp2]
    omega
theorem m_cnt80 {l1 : Int32} {w : sW} {t : Nat} (ht : t < 6) {k : Int32 → Int32 → xV → Option (Int32 × xV)} {V : xV} (hV : V 103 (20 + t) = nI (w.2.2.1 t)) (hb : w.2.2.1 t < 64) : ∀ (m u n a : Nat), m + u = t → m < n → f_X7_count_L80 l1 (nI t) n k (nI (a + bp1 w t u)) (nI u) V = k (nI (a + bp1 w t t)) (nI t) V := by
  intro m
  induction m with
  | zero =>
    intro u n a hu hn
    obtain ⟨n, rfl⟩ : ∃ q, n = q + 1 := ⟨n - 1, by omega⟩
    obtain rfl : u = t := by omega
    rw [f_X7_count_L80, if_pos (by rw [i_le]; exact Int.le_refl _)]
  | succ m ih =>
    intro u n a hu hn
    obtain ⟨n, rfl⟩ : ∃ q, n = q + 1 := ⟨n - 1, by omega⟩
    have e20 : (20 : Int32) + nI t = nI (20 + t) := nI_add 20 t
    rw [f_X7_count_L80, if_neg (by rw [i_le, i_n (by omega), i_n (by omega)]; omega), e20, if_pos (x_inN (by omega) (by decide)), i_c (by omega), hV, m_has hb (by omega), x_b2_some, nI_1]
    have := ih (u + 1) n a (by omega) (by omega)
    simp only [bp1, tbN] at this
    cases hq : (w.2.2.1 t).testBit u
    · rw [if_pos bI_f]
      rw [hq] at this
      rw [show nI (a + bp1 w t u) + 0 = nI (a + (bp1 w t u + 0)) by rw [show (0 : Int32) = nI 0 from rfl, nI_add]; rfl]
      simpa using this
    · rw [if_neg (by decide)]
      rw [hq] at this
      rw [show nI (a + bp1 w t u) + 1 = nI (a + (bp1 w t u + 1)) by rw [nI_1]; rfl]
      simpa using this
theorem m_cnt69 {l1 : Int32} {d : sT} {w : sW} (hd : okT d) (hw : okW d w) {k : Int32 → Int32 → xV → Option (Int32 × xV)} {V : xV} (h8 : V 96 8 = nI d.1) (hV : ∀ t, t < 6 → V 103 (20 + t) = nI (w.2.2.1 t)) : ∀ (m t n : Nat), m + t = d.1 → m < n → f_X7_count_L69 l1 n k (nI (bp2 w t)) (nI t) V = k (nI (bp2 w d.1)) (nI d.1) V := by
  intro m
  have h6 : d.1 ≤ 6 := hd.1
  induction m with
  | zero =>
    intro t n ht hn
    obtain ⟨n, rfl⟩ : ∃ q, n = q + 1 := ⟨n - 1, by omega⟩
    obtain rfl : t = d.1 := by omega
    rw [f_X7_count_L69, h8, if_pos (by rw [i_le]; exact Int.le_refl _)]
  | succ m ih =>
    intro t n ht hn
    obtain ⟨n, rfl⟩ : ∃ q, n = q + 1 := ⟨n - 1, by omega⟩
    rw [f_X7_count_L69, h8, if_neg (by rw [i_le, i_n (by omega), i_n (by omega)]; omega)]
    have := m_cnt80 (l1 := l1) (w := w) (t := t) (by omega) (k := fun l2_13 l4_14 V15 => f_X7_count_L69 l1 n k l2_13 (nI t + (1 : Int32)) V15) (hV t (by omega)) (hw.2.2.2.2.2.1 t (by omega)) t 0 300 (bp2 w t) (by omega) (by omega)
    rw [show (0 : Int32) = nI 0 from rfl]
    rw [show bp2 w t + bp1 w t 0 = bp2 w t from rfl] at this
    rw [this, nI_1]
    exact ih (t + 1) n (by omega) (by omega)
/-- all ends of barred pairs -/
def be1 (w : sW) (t : Nat) : Nat := tbN (w.2.2.1 t) 0 + tbN (w.2.2.1 t) 1 + tbN (w.2.2.1 t) 2 + tbN (w.2.2.1 t) 3 + tbN (w.2.2.1 t) 4 + tbN (w.2.2.1 t) 5
def be2 (w : sW) : Nat → Nat
  | 0 => 0
  | t + 1 => be2 w t + be1 w t
theorem c_pairs {w : sW} {V : xV} {k : Int32 → Int32 → xV → Option (Int32 × xV)} (hV : ∀ t, t < 6 → V 9 t = nI (w.2.2.1 t)) (hb : ∀ t, t < 6 → w.2.2.1 t < 64) : ∀ (m t n : Nat), m + t = 6 → m < n → f_X4_barredPairs_5_L4 n k (nI (be2 w t)) (nI t) V = k (nI (be2 w 6)) (nI 6) V := by
  intro m
  induction m with
  | zero =>
    intro t n ht hn
    obtain ⟨n, rfl⟩ : ∃ q, n = q + 1 := ⟨n - 1, by omega⟩
    obtain rfl : t = 6 := by omega
    rw [f_X4_barredPairs_5_L4, if_pos (by decide)]
  | succ m ih =>
    intro t n ht hn
    obtain ⟨n, rfl⟩ : ∃ q, n = q + 1 := ⟨n - 1, by omega⟩
    rw [f_X4_barredPairs_5_L4, if_neg (by rw [i_le, i_n (by omega), show (6 : Int32).toInt = 6 from rfl]; omega), if_pos (x_inN (by omega) (by decide)), i_c (by omega), hV t (by omega), b_count _ (hb t (by omega)), x_b2_some, nI_1, nI_add]
    exact ih (t + 1) n (by omega) (by omega)
theorem bp2_full {d : sT} {w : sW} (hd : okT d) (hw : okW d w) : bp2 w d.1 = bp2 w 6 := by
  have h6 : d.1 ≤ 6 := hd.1
  have z : ∀ t, d.1 ≤ t → t < 6 → ∀ u, bp1 w t u = 0 := by
    intro t h1 h2 u
    induction u with
    | zero => rfl
    | succ u ih =>
      simp only [bp1, tbN, ih]
      cases hq : (w.2.2.1 t).testBit u
      · rfl
      · have := hw.2.2.2.2.1 t u h2 hq
        omega
  have key : ∀ m t, m + t = 6 → d.1 ≤ t → bp2 w t = bp2 w 6 := by
    intro m
    induction m with
    | zero =>
      intro t h1 _
      obtain rfl : t = 6 := by omega
      rfl
    | succ m ih =>
      intro t h1 h2
      rw [← ih (t + 1) (by omega) (by omega)]
      simp only [bp2, z t h2 (by omega) t, Nat.add_zero]
  exact key (6 - d.1) d.1 (by omega) (Nat.le_refl _)
theorem be2_is {d : sT} {w : sW} (hw : okW d w) : be2 w 6 = 2 * bp2 w 6 := by
  have s := hw.2.2.1
  have a := hw.2.2.2.1
  have s' : ∀ t u, t < 6 → u < 6 → tbN (w.2.2.1 t) u = tbN (w.2.2.1 u) t := fun t u h1 h2 => by unfold tbN; rw [s t u h1 h2]
  have a' : ∀ t, t < 6 → tbN (w.2.2.1 t) t = 0 := fun t h => by unfold tbN; rw [a t h]; rfl
  simp only [be2, be1, bp2, bp1]
  rw [a' 0 (by decide), a' 1 (by decide), a' 2 (by decide), a' 3 (by decide), a' 4 (by decide), a' 5 (by decide), s' 0 1 (by decide) (by decide), s' 0 2 (by decide) (by decide), s' 0 3 (by decide) (by decide), s' 0 4 (by decide) (by decide), s' 0 5 (by decide) (by decide), s' 1 2 (by decide) (by decide), s' 1 3 (by decide) (by decide), s' 1 4 (by decide) (by decide), s' 1 5 (by decide) (by decide), s' 2 3 (by decide) (by decide), s' 2 4 (by decide) (by decide), s' 2 5 (by decide) (by decide), s' 3 4 (by decide) (by decide), s' 3 5 (by decide) (by decide), s' 4 5 (by decide) (by decide)]
  omega
theorem st_count (z : sS) (hz : okS z) (a : Int32) : stp (f_X6_count a) (fun _ => f_X7_count a) z := by
  obtain ⟨x, d, w, hi, im, se⟩ := z
  obtain ⟨o1, o2, o3, o4, o5, o6, o7, o8, o9⟩ := hz.split
  have bl := bp2_le w 6 (by decide)
  have M4 : ∀ (k : Nat) (V : xV), Mdl (x, d, w, hi, im, se) V → 4 ≤ k → k < 8 → f_X7_count (nI k) V = (if nI k = (4 : Int32) then some (nI (bp2 w d.1), x_up V 96 0 0) else if nI k = (5 : Int32) then some (V 96 27, x_up V 96 0 0) else if nI k = (6 : Int32) then some (V 96 2, x_up V 96 0 0) else some (V 96 23, x_up V 96 0 0)) := by
    intro k V h h4 h8
    obtain ⟨h1, h2, h3, -⟩ := h.th.split
    unfold f_X7_count
    rw [m_inT (by rw [i_n (by omega), i_0]; omega) (by rw [i_n (by omega), show (7 : Int32).toInt = 7 from rfl]; omega), x_b2_some, if_neg (by decide), if_pos (by rw [i_le, i_n (by omega), show (4 : Int32).toInt = 4 from rfl]; omega)]
    have := m_cnt69 (l1 := nI k) o3 o4 (k := fun l2_16 l3_17 V18 => if nI k = (4 : Int32) then (some (l2_16, V18)) else (if nI k = (5 : Int32) then (some ((V18 96 27), V18)) else (if nI k = (6 : Int32) then (some ((V18 96 2), V18)) else (some ((V18 96 23), V18))))) (V := x_up V 96 0 0) h2.1 (fun t ht => by have := (h3.2.1 t ht).2.2; rw [Nat.zero_add] at this; exact this) d.1 0 300 (by omega) (by have := o3.1; omega)
    refine (show f_X7_count_L69 (nI k) 300 _ (0 : Int32) (0 : Int32) (x_up V 96 0 0) = _ from this).trans ?_
    rw [up_k (by decide), up_k (by decide), up_k (by decide)]
  rcases i_arg a (n := 8) (by decide) with ⟨k, hk, rfl⟩ | ha
  · rcases (show k = 0 ∨ k = 1 ∨ k = 2 ∨ k = 3 ∨ k = 4 ∨ k = 5 ∨ k = 6 ∨ k = 7 by omega) with rfl | rfl | rfl | rfl | rfl | rfl | rfl | rfl
    · refine stp.same hz (nI d.1) (fun V h => ?_) (fun V h => ?_)
      · obtain ⟨h1, h2, h3, h4, h5, h6, h7⟩ := h.split
        unfold f_X6_count
        rw [if_pos (by decide), h2.1]
      · obtain ⟨h1, h2, h3, h4, h5, h6⟩ := h.th.split
        show f_X7_count _ V = _
        unfold f_X7_count
        rw [m_inT (by decide) (by decide), x_b2_some, if_neg (by decide), if_neg (by decide), if_pos (by decide), h2.1]
    · refine stp.same hz (nI d.2.1) (fun V h => ?_) (fun V h => ?_)
      · obtain ⟨h1, h2, h3, h4, h5, h6, h7⟩ := h.split
        unfold f_X6_count
        rw [if_neg (by decide), if_pos (by decide), h2.2.1]
      · obtain ⟨h1, h2, h3, h4, h5, h6⟩ := h.th.split
        show f_X7_count _ V = _
        unfold f_X7_count
        rw [m_inT (by decide) (by decide), x_b2_some, if_neg (by decide), if_neg (by decide), if_neg (by decide), if_pos (by decide), h2.2.1]
    · refine stp.same hz (nI d.2.2.1) (fun V h => ?_) (fun V h => ?_)
      · obtain ⟨h1, h2, h3, h4, h5, h6, h7⟩ := h.split
        unfold f_X6_count
        rw [if_neg (by decide), if_neg (by decide), if_pos (by decide), h2.2.2.1]
      · obtain ⟨h1, h2, h3, h4, h5, h6⟩ := h.th.split
        show f_X7_count _ V = _
        unfold f_X7_count
        rw [m_inT (by decide) (by decide), x_b2_some, if_neg (by decide), if_neg (by decide), if_neg (by decide), if_neg (by decide), if_pos (by decide), h2.2.2.1]
    · refine stp.same hz (nI w.2.2.2) (fun V h => ?_) (fun V h => ?_)
      · obtain ⟨h1, h2, h3, h4, h5, h6, h7⟩ := h.split
        unfold f_X6_count
        rw [if_neg (by decide), if_neg (by decide), if_neg (by decide), if_pos (by decide), h3.2.2]
      · obtain ⟨h1, h2, h3, h4, h5, h6⟩ := h.th.split
        have := h3.2.2
        rw [Nat.zero_add] at this
        show f_X7_count _ V = _
        unfold f_X7_count
        rw [m_inT (by decide) (by decide), x_b2_some, if_neg (by decide), if_neg (by decide), if_neg (by decide), if_neg (by decide), if_neg (by decide), this]
    · refine stp.same hz (nI (bp2 w d.1)) (fun V h => ?_) (fun V h => ?_)
      · obtain ⟨h1, h2, h3, h4, h5, h6, h7⟩ := h.split
        unfold f_X6_count
        rw [if_neg (by decide), if_neg (by decide), if_neg (by decide), if_neg (by decide), if_pos (by decide)]
        have e := c_pairs (w := w) (V := V) (k := fun l1_6 l2_7 V8 => some ((l1_6 / (2 : Int32)), V8)) (fun t ht => (h3.2.1 t ht).2.2) o4.2.2.2.2.2.1 6 0 300 rfl (by decide)
        unfold f_X4_barredPairs_5
        rw [show f_X4_barredPairs_5_L4 300 (fun l1_6 l2_7 V8 => some ((l1_6 / (2 : Int32)), V8)) (0 : Int32) (0 : Int32) V = some (nI (be2 w 6) / (2 : Int32), V) from e, x_b2_some, be2_is o4, show (2 : Int32) = nI 2 from rfl, pk_div (by omega) (by decide) (by decide), Nat.mul_div_cancel_left _ (by decide), bp2_full o3 o4]
      · show f_X7_count _ V = _
        rw [M4 4 V h (by decide) (by decide), if_pos (by decide)]
    · refine stp.same hz (nI se.length) (fun V h => ?_) (fun V h => ?_)
      · obtain ⟨h1, h2, h3, h4, h5, h6, h7⟩ := h.split
        unfold f_X6_count
        rw [if_neg (by decide), if_neg (by decide), if_neg (by decide), if_neg (by decide), if_neg (by decide), if_pos (by decide), h6.1]
      · obtain ⟨h1, h2, h3, h4, h5, h6⟩ := h.split
        show f_X7_count _ V = _
        rw [M4 5 V h (by decide) (by decide), if_neg (by decide), if_pos (by decide), h6.1]
    · refine stp.same hz (nI x.length) (fun V h => ?_) (fun V h => ?_)
      · obtain ⟨h1, h2, h3, h4, h5, h6, h7⟩ := h.split
        unfold f_X6_count
        rw [if_neg (by decide), if_neg (by decide), if_neg (by decide), if_neg (by decide), if_neg (by decide), if_neg (by decide), if_pos (by decide), h1.1]
      · obtain ⟨h1, h2, h3, h4, h5, h6⟩ := h.split
        show f_X7_count _ V = _
        rw [M4 6 V h (by decide) (by decide), if_neg (by decide), if_neg (by decide), if_pos (by decide), h1.1]
    · refine stp.same hz (nI hi.length) (fun V h => ?_) (fun V h => ?_)
      · obtain ⟨h1, h2, h3, h4, h5, h6, h7⟩ := h.split
        unfold f_X6_count f_X0_known
        rw [if_neg (by decide), if_neg (by decide), if_neg (by decide), if_neg (by decide), if_neg (by decide), if_neg (by decide), if_neg (by decide), if_pos (by decide), x_b2_some, h4.1]
      · obtain ⟨h1, h2, h3, h4, h5, h6⟩ := h.split
        show f_X7_count _ V = _
        rw [M4 7 V h (by decide) (by decide), if_neg (by decide), if_neg (by decide), if_neg (by decide), h4.1]
  · refine stp.same hz (-1) (fun V h => ?_) (fun V h => ?_)
    · unfold f_X6_count
      rw [if_neg (fun q => by rw [q] at ha; revert ha; decide), if_neg (fun q => by rw [q] at ha; revert ha; decide), if_neg (fun q => by rw [q] at ha; revert ha; decide), if_neg (fun q => by rw [q] at ha; revert ha; decide), if_neg (fun q => by rw [q] at ha; revert ha; decide), if_neg (fun q => by rw [q] at ha; revert ha; decide), if_neg (fun q => by rw [q] at ha; revert ha; decide), if_neg (fun q => by rw [q] at ha; revert ha; decide)]
    · show f_X7_count _ V = _
      unfold f_X7_count
      rw [m_inF (by rw [i_0, show (7 : Int32).toInt = 7 from rfl]; omega)]
      rfl
