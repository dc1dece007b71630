theorem st_thing (z : sS) (hz : okS z) (a b : Int32) : stp (f_X6_thing a b) (fun _ => f_X7_thing a b) z := by
  obtain ⟨x, d, w, hi, im, se⟩ := z
  obtain ⟨o1, o2, o3, o4, o5, o6, o7, o8, o9⟩ := hz.split
  obtain ⟨t1, t2, t3, t4, t5, t6, t7⟩ := o3
  rcases i_arg a (n := d.1) (by omega) with ⟨t, ht, rfl⟩ | ha
  · have e8 : ∀ k, k < 27 → (nI k + nI t) = nI (k + t) := fun k _ => nI_add k t
    have i8 : ∀ k, k ≤ 20 → x_in (nI (k + t)) 27 = true := fun k _ => x_inN (by omega) (by decide)
    have c8 : ∀ k, k ≤ 20 → (nI (k + t)).toNatClampNeg = k + t := fun k _ => i_c (by omega)
    rcases i_arg b (n := 4) (by decide) with ⟨k, hk, rfl⟩ | hb
    · rcases (show k = 0 ∨ k = 1 ∨ k = 2 ∨ k = 3 by omega) with rfl | rfl | rfl | rfl
      · refine stp.same hz (nI (d.2.2.2.1 t)) (fun V h => ?_) (fun V h => ?_)
        · obtain ⟨-, h2, -⟩ := h.split
          unfold f_X6_thing
          rw [c_th1 h2.1 ht (by omega), x_b2_some, if_neg (by decide), if_pos (by decide), if_pos (x_inN (by omega) (by decide)), i_c (by omega), h2.2.2.2.1 t ht]
        · obtain ⟨-, h2, -⟩ := h.th.split
          show f_X7_thing _ _ V = _
          unfold f_X7_thing
          rw [m_th1 h2.1 ht (by omega), x_b2_some, if_neg (by decide), m_inT (by decide) (by decide), x_b2_some, if_neg (by decide), if_pos (by decide), if_pos (x_inN (by omega) (by decide)), i_c (by omega), h2.2.2.2.1 t ht]
      · refine stp.same hz (lF (w.2.1 t)) (fun V h => ?_) (fun V h => ?_)
        · obtain ⟨-, h2, h3, -⟩ := h.split
          unfold f_X6_thing
          rw [c_th1 h2.1 ht (by omega), x_b2_some, if_neg (by decide), if_neg (by decide), if_pos (by decide), if_pos (x_inN (by omega) (by decide)), i_c (by omega), (h3.2.1 t (by omega)).1]
        · obtain ⟨-, h2, h3, -⟩ := h.th.split
          show f_X7_thing _ _ V = _
          unfold f_X7_thing
          have := (h3.2.1 t (by omega)).1
          rw [Nat.zero_add] at this
          rw [m_th1 h2.1 ht (by omega), x_b2_some, if_neg (by decide), m_inT (by decide) (by decide), x_b2_some, if_neg (by decide), if_neg (by decide), if_pos (by decide), show (8 : Int32) + nI t = nI (8 + t) from e8 8 (by decide), if_pos (i8 8 (by decide)), c8 8 (by decide), this]
      · refine stp.same hz (lT (w.2.1 t)) (fun V h => ?_) (fun V h => ?_)
        · obtain ⟨-, h2, h3, -⟩ := h.split
          unfold f_X6_thing
          rw [c_th1 h2.1 ht (by omega), x_b2_some, if_neg (by decide), if_neg (by decide), if_neg (by decide), if_pos (by decide), if_pos (x_inN (by omega) (by decide)), i_c (by omega), (h3.2.1 t (by omega)).2.1]
        · obtain ⟨-, h2, h3, -⟩ := h.th.split
          show f_X7_thing _ _ V = _
          unfold f_X7_thing
          have := (h3.2.1 t (by omega)).2.1
          rw [Nat.zero_add] at this
          rw [m_th1 h2.1 ht (by omega), x_b2_some, if_neg (by decide), m_inT (by decide) (by decide), x_b2_some, if_neg (by decide), if_neg (by decide), if_neg (by decide), if_pos (by decide), show (14 : Int32) + nI t = nI (14 + t) from e8 14 (by decide), if_pos (i8 14 (by decide)), c8 14 (by decide), this]
      · refine stp.same hz (nI (w.2.2.1 t)) (fun V h => ?_) (fun V h => ?_)
        · obtain ⟨-, h2, h3, -⟩ := h.split
          unfold f_X6_thing
          rw [c_th1 h2.1 ht (by omega), x_b2_some, if_neg (by decide), if_neg (by decide), if_neg (by decide), if_neg (by decide), if_pos (by decide), if_pos (x_inN (by omega) (by decide)), i_c (by omega), (h3.2.1 t (by omega)).2.2]
        · obtain ⟨-, h2, h3, -⟩ := h.th.split
          show f_X7_thing _ _ V = _
          unfold f_X7_thing
          have := (h3.2.1 t (by omega)).2.2
          rw [Nat.zero_add] at this
          rw [m_th1 h2.1 ht (by omega), x_b2_some, if_neg (by decide), m_inT (by decide) (by decide), x_b2_some, if_neg (by decide), if_neg (by decide), if_neg (by decide), if_neg (by decide), show (20 : Int32) + nI t = nI (20 + t) from e8 20 (by decide), if_pos (i8 20 (by decide)), c8 20 (by decide), this]
    · refine stp.same hz (-1) (fun V h => ?_) (fun V h => ?_)
      · obtain ⟨-, h2, -⟩ := h.split
        unfold f_X6_thing
        rw [c_th1 h2.1 ht (by omega), x_b2_some, if_neg (by decide), if_neg (fun q => by rw [q] at hb; revert hb; decide), if_neg (fun q => by rw [q] at hb; revert hb; decide), if_neg (fun q => by rw [q] at hb; revert hb; decide), if_neg (fun q => by rw [q] at hb; revert hb; decide)]
      · obtain ⟨-, h2, -⟩ := h.th.split
        show f_X7_thing _ _ V = _
        unfold f_X7_thing
        rw [m_th1 h2.1 ht (by omega), x_b2_some, if_neg (by decide), m_inF (by rw [i_0, show (3 : Int32).toInt = 3 from rfl]; omega)]
        rfl
  · refine stp.same hz (-1) (fun V h => ?_) (fun V h => ?_)
    · obtain ⟨-, h2, -⟩ := h.split
      unfold f_X6_thing
      rw [c_th0 h2.1 (by omega) ha]
      rfl
    · obtain ⟨-, h2, -⟩ := h.th.split
      show f_X7_thing _ _ V = _
      unfold f_X7_thing
      rw [m_th0 h2.1 (by omega) ha]
      rfl
theorem c_slot {V : xV} {s b C : Nat} (h : V 2 2 = nI C) : f_X3_slotOf_2 (nI s) (nI b) V = some (nI (s * C + b), V) := by
  unfold f_X3_slotOf_2
  rw [h, pk_mul, nI_add]
theorem m_slot (s b : Nat) : ((0 : Int32) + ((2 : Int32) * nI s)) + nI b = nI (2 * s + b) := by
  rw [show (2 : Int32) = nI 2 from rfl, show (0 : Int32) = nI 0 from rfl, pk_mul, nI_add, nI_add, Nat.zero_add]
theorem slot_lt {d : sT} (hd : okT d) {s b : Nat} (hs : s < d.2.1) (hb : b < d.2.2.1) : s * d.2.2.1 + b < p_N d ∧ p_N d ≤ 8 := by
  obtain ⟨t1, t2, t3, t4, t5, t6, t7⟩ := hd
  unfold p_N
  constructor
  · have : (s + 1) * d.2.2.1 ≤ d.2.1 * d.2.2.1 := Nat.mul_le_mul_right _ hs
    rw [Nat.add_mul, Nat.one_mul] at this
    omega
  · exact Nat.le_trans (Nat.mul_le_mul t3 t5) (by decide)
theorem st_down (z : sS) (hz : okS z) (a b : Int32) : stp (f_X6_down a b) (fun _ => f_X7_down a b) z := by
  obtain ⟨x, d, w, hi, im, se⟩ := z
  obtain ⟨o1, o2, o3, o4, o5, o6, o7, o8, o9⟩ := hz.split
  obtain ⟨t1, t2, t3, t4, t5, t6, t7⟩ := id o3
  rcases i_arg a (n := d.2.1) (by omega) with ⟨s, hs, rfl⟩ | ha
  · rcases i_arg b (n := d.2.2.1) (by omega) with ⟨c, hc, rfl⟩ | hb
    · obtain ⟨l1, l2⟩ := slot_lt o3 hs hc
      refine stp.same hz (oI (w.1 s c)) (fun V h => ?_) (fun V h => ?_)
      · obtain ⟨-, h2, h3, -⟩ := h.split
        unfold f_X6_down
        rw [c_se1 h2.2.1 hs (by omega), x_b2_some, if_neg (by decide), c_ca1 h2.2.2.1 hc (by omega), x_b2_some, if_neg (by decide), c_slot h2.2.2.1, x_b2_some, if_pos (x_inN (by omega) (by decide)), i_c (by omega), h3.1 s c hs hc]
      · obtain ⟨-, h2, h3, -⟩ := h.th.split
        show f_X7_down _ _ V = _
        unfold f_X7_down
        have := h3.1 s c hs hc
        rw [Nat.zero_add] at this
        rw [m_se1 h2.2.1 hs (by omega), x_b2_some, if_neg (by decide), m_ca1 h2.2.2.1 hc (by omega), x_b2_some, if_neg (by decide), m_slot, if_pos (x_inN (by omega) (by decide)), i_c (by omega), this]
    · refine stp.same hz (-1) (fun V h => ?_) (fun V h => ?_)
      · obtain ⟨-, h2, h3, -⟩ := h.split
        unfold f_X6_down
        rw [c_se1 h2.2.1 hs (by omega), x_b2_some, if_neg (by decide), c_ca0 h2.2.2.1 (by omega) hb]
        rfl
      · obtain ⟨-, h2, h3, -⟩ := h.th.split
        show f_X7_down _ _ V = _
        unfold f_X7_down
        rw [m_se1 h2.2.1 hs (by omega), x_b2_some, if_neg (by decide), m_ca0 h2.2.2.1 (by omega) hb]
        rfl
  · refine stp.same hz (-1) (fun V h => ?_) (fun V h => ?_)
    · obtain ⟨-, h2, h3, -⟩ := h.split
      unfold f_X6_down
      rw [c_se0 h2.2.1 (by omega) ha]
      rfl
    · obtain ⟨-, h2, h3, -⟩ := h.th.split
      show f_X7_down _ _ V = _
      unfold f_X7_down
      rw [m_se0 h2.2.1 (by omega) ha]
      rfl
