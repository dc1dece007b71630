section Parts
variable {x x' : List Int32} {d : sT} {w w' : sW} {hi hi' : List sW} {im im' : Option sW × Option sW} {se se' : List Int32} {V V' : xV}
theorem Cls.tx (h : Cls (x, d, w, hi, im, se) V) (hx : cTx V' x') (e7 : V' 0 7 = V 0 7) (e9 : V' 0 9 = V 0 9) (e : ∀ a, 2 ≤ a → a < 96 → V' a = V a) : Cls (x', d, w, hi, im, se) V' := by
  obtain ⟨h1, h2, h3, h4, h5, h6, h7⟩ := h.split
  exact ⟨hx, h2.cg (fun a _ _ => e a (by omega) (by omega)), h3.cg (fun a _ _ => e a (by omega) (by omega)), h4.cg (fun a _ _ => e a (by omega) (by omega)), h5.cg e7 (fun a _ _ => e a (by omega) (by omega)), h6.cg e9 (e 72 (by decide) (by decide)), h7.cg (fun a _ _ => e a (by omega) (by omega))⟩
theorem Cls.sn (h : Cls (x, d, w, hi, im, se) V) (hx : cSe V' se') (e1 : V' 0 1 = V 0 1) (e7 : V' 0 7 = V 0 7) (e0 : V' 1 = V 1) (e : ∀ a, 2 ≤ a → a < 96 → a ≠ 72 → V' a = V a) : Cls (x, d, w, hi, im, se') V' := by
  obtain ⟨h1, h2, h3, h4, h5, h6, h7⟩ := h.split
  exact ⟨h1.cg e1 e0, h2.cg (fun a _ _ => e a (by omega) (by omega) (by omega)), h3.cg (fun a _ _ => e a (by omega) (by omega) (by omega)), h4.cg (fun a _ _ => e a (by omega) (by omega) (by omega)), h5.cg e7 (fun a _ _ => e a (by omega) (by omega) (by omega)), hx, h7.cg (fun a _ _ => e a (by omega) (by omega) (by omega))⟩
theorem Cls.wi (h : Cls (x, d, w, hi, im, se) V) (hw : cW d V' 5 w') (hh : cHi d V' hi') (hs : V' 73 5 = -5) (e0 : V' 0 = V 0) (e : ∀ a, (1 ≤ a ∧ a ≤ 4) ∨ a = 72 ∨ (86 ≤ a ∧ a < 96) → V' a = V a) : Cls (x, d, w', hi', im, se) V' := by
  obtain ⟨h1, h2, h3, h4, h5, h6, h7⟩ := h.split
  exact ⟨h1.cg (by rw [e0]) (e 1 (by omega)), h2.cg (fun a _ _ => e a (by omega)), hw, hh, h5.cg (by rw [e0]) (fun a _ _ => e a (by omega)), h6.cg (by rw [e0]) (e 72 (by omega)), cCa.stale hs⟩
theorem Mdl.tx (h : Mdl (x, d, w, hi, im, se) V) (hx : mTx V' x') (e : ∀ k, k ≠ 2 → k ≠ 0 → V' 96 k = V 96 k) (e2 : ∀ a, 98 ≤ a → V' a = V a) : Mdl (x', d, w, hi, im, se) V' := by
  obtain ⟨h1, h2, h3, h4, h5, h6⟩ := h.split
  exact ⟨hx, h2.cg (e _ (by decide) (by decide)) (e _ (by decide) (by decide)) (e _ (by decide) (by decide)) (e2 _ (by decide)) (e2 _ (by decide)), by rw [e2 _ (by decide)]; exact h3, h4.cg (e _ (by decide) (by decide)) (e2 _ (by decide)), h5.cg (e2 _ (by decide)) (e2 _ (by decide)), h6.cg (e _ (by decide) (by decide)) (e2 _ (by decide))⟩
theorem Mdl.sn (h : Mdl (x, d, w, hi, im, se) V) (hx : mSe V' se') (e : ∀ k, k ≠ 27 → k ≠ 0 → V' 96 k = V 96 k) (e2 : ∀ a, 97 ≤ a → a ≠ 107 → V' a = V a) : Mdl (x, d, w, hi, im, se') V' := by
  obtain ⟨h1, h2, h3, h4, h5, h6⟩ := h.split
  exact ⟨h1.cg (e _ (by decide) (by decide)) (e2 _ (by decide) (by decide)), h2.cg (e _ (by decide) (by decide)) (e _ (by decide) (by decide)) (e _ (by decide) (by decide)) (e2 _ (by decide) (by decide)) (e2 _ (by decide) (by decide)), by rw [e2 _ (by decide) (by decide)]; exact h3, h4.cg (e _ (by decide) (by decide)) (e2 _ (by decide) (by decide)), h5.cg (e2 _ (by decide) (by decide)) (e2 _ (by decide) (by decide)), hx⟩
theorem Mdl.wi (h : Mdl (x, d, w, hi, im, se) V) (hw : mW d (V' 103) 0 w') (hh : mHi d V' hi') (e : ∀ k, k ≠ 23 → k ≠ 0 → V' 96 k = V 96 k) (e2 : ∀ a, 97 ≤ a → a ≠ 103 → a ≠ 104 → V' a = V a) : Mdl (x, d, w', hi', im, se) V' := by
  obtain ⟨h1, h2, h3, h4, h5, h6⟩ := h.split
  exact ⟨h1.cg (e _ (by decide) (by decide)) (e2 _ (by decide) (by decide) (by decide)), h2.cg (e _ (by decide) (by decide)) (e _ (by decide) (by decide)) (e _ (by decide) (by decide)) (e2 _ (by decide) (by decide) (by decide)) (e2 _ (by decide) (by decide) (by decide)), hw, hh, h5.cg (e2 _ (by decide) (by decide) (by decide)) (e2 _ (by decide) (by decide) (by decide)), h6.cg (e _ (by decide) (by decide)) (e2 _ (by decide) (by decide) (by decide))⟩
end Parts
theorem st_clear (z : sS) (hz : okS z) : stp f_X6_clear (fun _ => f_X7_clear) z := by
  obtain ⟨x, d, w, hi, im, se⟩ := z
  obtain ⟨o1, o2, o3⟩ := hz
  refine ⟨nI x.length, ([], d, w, hi, im, se), ⟨by simp, fun c h => absurd h List.not_mem_nil, o3⟩, fun V h => ⟨x_up V 0 1 0, ?_, ?_, frC.rf.up (by decide)⟩, fun V h => ⟨0, x_up (x_up V 96 0 0) 96 2 0, ?_, ?_, frM.th.up (by decide)⟩⟩
  · unfold f_X6_clear
    rw [show V 0 1 = nI x.length from h.1.1]
  · exact h.tx ⟨up_eq, fun i c hc => by simp at hc⟩ (up_k (by decide)) (up_k (by decide)) (fun a _ _ => up_a (by omega))
  · show f_X7_clear V = _
    unfold f_X7_clear
    rw [show V 96 2 = nI x.length from h.1.1]
  · exact h.tx ⟨up_eq, fun i c hc => by simp at hc⟩ (fun k h1 h2 => by rw [up_k h1, up_k h2]) (fun a _ => by rw [up_a (by omega), up_a (by omega)])
theorem st_forget (z : sS) (hz : okS z) : stp f_X6_forget (fun _ => f_X7_forget) z := by
  obtain ⟨x, d, w, hi, im, se⟩ := z
  obtain ⟨o1, o2, o3, o4, o5, o6, o7, o8, o9⟩ := hz.split
  refine ⟨nI se.length, (x, d, w, hi, im, []), ⟨o1, o2, o3, o4, o5, o6, o7, o8, by simp⟩, fun V h => ⟨x_up V 0 9 0, ?_, ?_, frC.rf.up (by decide)⟩, fun V h => ⟨0, x_up (x_up V 96 0 0) 96 27 0, ?_, ?_, frM.th.up (by decide)⟩⟩
  · unfold f_X6_forget
    rw [show V 0 9 = nI se.length from h.2.2.2.2.2.1.1]
  · exact h.sn ⟨up_eq, fun i c hc => by simp at hc⟩ (up_k (by decide)) (up_k (by decide)) (up_a (by decide)) (fun a _ _ _ => up_a (by omega))
  · show f_X7_forget V = _
    unfold f_X7_forget
    rw [show V 96 27 = nI se.length from h.2.2.2.2.2.1]
  · exact h.sn ⟨up_eq, fun i c hc => by simp at hc⟩ (fun k h1 h2 => by rw [up_k h1, up_k h2]) (fun a _ _ => by rw [up_a (by omega), up_a (by omega)])
theorem l_get_snoc {x : List Int32} {c q : Int32} {i : Nat} (h : (x ++ [c])[i]? = some q) : (i = x.length ∧ q = c) ∨ (i < x.length ∧ x[i]? = some q) := by
  have hl := (List.getElem?_eq_some_iff.mp h).1
  rw [List.length_append, List.length_singleton] at hl
  by_cases hi : i < x.length
  · rw [List.getElem?_append_left hi] at h
    exact Or.inr ⟨hi, h⟩
  · have : i = x.length := by omega
    subst this
    simp at h
    exact Or.inl ⟨rfl, h.symm⟩
theorem st_sees (z : sS) (hz : okS z) (a : Int32) : stp (f_X6_sees a) (fun _ => f_X7_sees a) z := by
  obtain ⟨x, d, w, hi, im, se⟩ := z
  obtain ⟨o1, o2, o3, o4, o5, o6, o7, o8, o9⟩ := hz.split
  by_cases ha : a = 9 ∨ (0 ≤ a.toInt ∧ a.toInt ≤ 6)
  · have fC : ∀ V, f_X6_sees a V = if (V 0 9) < (4 : Int32) then (if x_in (V 0 9) 4 = true then (some (((V 0 9) + 1), (x_up (x_up V 72 ((V 0 9).toNatClampNeg) a) 0 9 ((V 0 9) + 1)))) else none) else (some ((-3 : Int32), V)) := by
      intro V
      unfold f_X6_sees
      by_cases h9 : a = 9
      · rw [if_pos h9]
      · have h6 : 0 ≤ a.toInt ∧ a.toInt ≤ 6 := by rcases ha with h | h; exact absurd h h9; exact h
        rw [if_neg h9, if_neg (by rw [i_lt, i_0]; omega), if_pos (by rw [i_le, show (6 : Int32).toInt = 6 from rfl]; omega)]
    have fM : ∀ V, f_X7_sees a V = if (V 96 27) = (4 : Int32) then (some ((-3 : Int32), x_up V 96 0 0)) else (if x_in (V 96 27) 4 = true then (some (((V 96 27) + 1), (x_up (x_up (x_up V 96 0 0) 107 ((V 96 27).toNatClampNeg) a) 96 27 ((V 96 27) + 1)))) else none) := by
      intro V
      unfold f_X7_sees
      by_cases h6 : 0 ≤ a.toInt ∧ a.toInt ≤ 6
      · rw [m_inT (by rw [i_0]; omega) (by rw [show (6 : Int32).toInt = 6 from rfl]; omega)]
        simp only [x_b2_some, up_k (show 27 ≠ 0 by decide)]
        rfl
      · have h9 : a = 9 := by rcases ha with h | h; exact h; exact absurd h h6
        rw [m_inF (by rw [i_0, show (6 : Int32).toInt = 6 from rfl]; omega)]
        simp only [x_b2_some, up_k (show 27 ≠ 0 by decide), h9]
        rfl
    by_cases hl : se.length = 4
    · refine stp.same hz (-3) (fun V h => ?_) (fun V h => ?_)
      · rw [fC, show V 0 9 = nI se.length from h.2.2.2.2.2.1.1, hl, if_neg (by decide)]
      · show f_X7_sees a V = _
        rw [fM, show V 96 27 = nI se.length from h.2.2.2.2.2.1, hl, if_pos (show nI 4 = (4 : Int32) from rfl)]
    · have e1 : nI se.length + 1 = nI (se.length + 1) := nI_1 _
      refine ⟨nI (se.length + 1), (x, d, w, hi, im, se ++ [a]), ⟨o1, o2, o3, o4, o5, o6, o7, o8, by simp; omega⟩, fun V h => ⟨x_up (x_up V 72 se.length a) 0 9 (nI (se.length + 1)), ?_, ?_, (frC.rf.up (by decide)).up (by decide)⟩, fun V h => ⟨0, x_up (x_up (x_up V 96 0 0) 107 se.length a) 96 27 (nI (se.length + 1)), ?_, ?_, (frM.th.up (by decide)).up (by decide)⟩⟩
      · rw [fC, show V 0 9 = nI se.length from h.2.2.2.2.2.1.1, if_pos (by rw [i_lt, i_n (by omega), show (4 : Int32).toInt = 4 from rfl]; omega), if_pos (x_inN (by omega) (by decide)), i_c (by omega), e1]
      · refine h.sn ⟨by rw [up_eq]; simp, fun i c hc => ?_⟩ (by rw [up_k (by decide), up_a (by decide)]) (by rw [up_k (by decide), up_a (by decide)]) (by rw [up_a (by decide), up_a (by decide)]) (fun b _ _ _ => by rw [up_a (by omega), up_a (by omega)])
        rw [up_a (by decide)]
        rcases l_get_snoc hc with ⟨rfl, rfl⟩ | ⟨h1, h2⟩
        · exact up_eq
        · rw [up_k (by omega)]
          exact h.2.2.2.2.2.1.2 i c h2
      · show f_X7_sees a V = _
        rw [fM, show V 96 27 = nI se.length from h.2.2.2.2.2.1, if_neg (by rw [i_eq, i_n (by omega), show (4 : Int32).toInt = 4 from rfl]; omega), if_pos (x_inN (by omega) (by decide)), i_c (by omega), e1]
      · refine h.sn ⟨by rw [up_eq]; simp, fun i c hc => ?_⟩ (fun k h1 h2 => by rw [up_k h1, up_a (by decide), up_k h2]) (fun b _ _ => by rw [up_a (by omega), up_a (by omega), up_a (by omega)])
        rw [up_a (by decide)]
        rcases l_get_snoc hc with ⟨rfl, rfl⟩ | ⟨h1, h2⟩
        · exact up_eq
        · rw [up_k (by omega), up_a (by decide)]
          exact h.2.2.2.2.2.2 i c h2
  · refine stp.same hz (-1) (fun V h => ?_) (fun V h => ?_)
    · unfold f_X6_sees
      rw [if_neg (fun q => ha (Or.inl q))]
      by_cases h0 : a < 0
      · rw [if_pos h0]
      · rw [if_neg h0, if_neg (by intro q; rw [i_le, show (6 : Int32).toInt = 6 from rfl] at q; rw [i_lt, i_0] at h0; exact ha (Or.inr (by omega)))]
    · show f_X7_sees a V = _
      unfold f_X7_sees
      rw [m_inF (by rw [i_0, show (6 : Int32).toInt = 6 from rfl]; omega)]
      simp only [x_b2_some]
      rw [if_pos trivial, if_neg (fun q => ha (Or.inl q))]
theorem st_light (z : sS) (hz : okS z) (a : Int32) : stp (f_X6_light a) (fun _ => f_X7_light a) z := by
  obtain ⟨x, d, w, hi, im, se⟩ := z
  obtain ⟨o1, o2, o3, o4, o5, o6, o7, o8, o9⟩ := hz.split
  obtain ⟨t1, t2, t3, t4, t5, t6, t7⟩ := o3
  rcases i_arg a (n := d.2.1) (by omega) with ⟨s, hs, rfl⟩ | ha
  · refine stp.same hz (nI (d.2.2.2.2 s)) (fun V h => ?_) (fun V h => ?_)
    · obtain ⟨-, h2, -⟩ := h.split
      unfold f_X6_light
      rw [c_se1 h2.2.1 hs (by omega), x_b2_some, if_neg (by decide), if_pos (x_inN (by omega) (by decide)), i_c (by omega), h2.2.2.2.2 s hs]
    · obtain ⟨-, h2, -⟩ := h.th.split
      show f_X7_light _ V = _
      unfold f_X7_light
      rw [m_se1 h2.2.1 hs (by omega), x_b2_some, if_neg (by decide), if_pos (x_inN (by omega) (by decide)), i_c (by omega), h2.2.2.2.2 s hs]
  · refine stp.same hz (-1) (fun V h => ?_) (fun V h => ?_)
    · obtain ⟨-, h2, -⟩ := h.split
      unfold f_X6_light
      rw [c_se0 h2.2.1 (by omega) ha]
      rfl
    · obtain ⟨-, h2, -⟩ := h.th.split
      show f_X7_light _ V = _
      unfold f_X7_light
      rw [m_se0 h2.2.1 (by omega) ha]
      rfl
