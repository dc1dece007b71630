/-! house -/
section HS
variable {x : List Int32} {V : xV}
/-- nothing of what is held lies in the cells of reading -/
theorem Mdl.rd {z : sS} {V' : xV} (h : Mdl z V) (e : rFr V V') : Mdl z V' := by
  obtain ⟨h1, h2, h3, h4, h5, h6⟩ := h
  obtain ⟨e1, e2⟩ := e
  exact ⟨h1.cg (e2 2 (by decide)) (e1 97 (by decide) (by decide) (by decide) (by decide)), h2.cg (e2 8 (by decide)) (e2 9 (by decide)) (e2 10 (by decide)) (e1 99 (by decide) (by decide) (by decide) (by decide)) (e1 98 (by decide) (by decide) (by decide) (by decide)), by rw [e1 103 (by decide) (by decide) (by decide) (by decide)]; exact h3, h4.cg (e2 23 (by decide)) (e1 104 (by decide) (by decide) (by decide) (by decide)), h5.cg (e1 106 (by decide) (by decide) (by decide) (by decide)) (e1 105 (by decide) (by decide) (by decide) (by decide)), h6.cg (e2 27 (by decide)) (e1 107 (by decide) (by decide) (by decide) (by decide))⟩
theorem Mdl.th0 {z : sS} (h : Mdl z V) : Mdl z (x_up V 96 0 0) := by
  obtain ⟨h1, h2, h3, h4, h5, h6⟩ := h
  exact ⟨h1.cg (up_k (by decide)) (up_a (by decide)), h2.cg (up_k (by decide)) (up_k (by decide)) (up_k (by decide)) (up_a (by decide)) (up_a (by decide)), by rw [up_a (by decide)]; exact h3, h4.cg (up_k (by decide)) (up_a (by decide)), h5.cg (up_a (by decide)) (up_a (by decide)), h6.cg (up_k (by decide)) (up_a (by decide))⟩
def m_kH (l1_84 : Int32) (V85 : xV) : Option (Int32 × xV) := x_b2 (f_X7_isWell V85) (fun x89 V88 => if x89 = 0 then (some (((-10 : Int32) - (V88 96 7)), V88)) else (x_b1 (f_X7_settles V88) (fun V92 => some (l1_84, V92))))
theorem m_house {d : sT} {w : sW} {hi : List sW} {im : Option sW × Option sW} {se : List Int32} (hl : x.length ≤ 100) (hx : ∀ c ∈ x, 0 ≤ c.toInt ∧ c.toInt ≤ 255) (h : Mdl (x, d, w, hi, im, se) V) : hOut (x, d, w, hi, im, se) x (fun r z' => ∃ V2, f_X7_house V = some (r, V2) ∧ Mdl z' V2 ∧ frM V V2) := by
  have h0 := h.th0
  have ht0 : mTx (x_up V 96 0 0) x := h0.1
  have g0 : rFr (x_up V 96 0 0) (x_up (x_up (x_up V 96 0 0) 96 7 (-1)) 96 3 0) := (rFr.rf.u6 (by decide)).u6 (by decide)
  obtain ⟨V1, e1, a1, a2, hr1⟩ := m_begins (V := x_up (x_up (x_up V 96 0 0) 96 7 (-1)) 96 3 0)
  have g1 : rFr (x_up V 96 0 0) V1 := ⟨fun a q1 q2 q3 q4 => by rw [a1 a q1 q2 q4]; exact g0.1 a q1 q2 q3 q4, fun j hj => by rw [a2 j (by omega)]; exact g0.2 j hj⟩
  obtain ⟨V2, e2, b1, b2, v3, v5, v4, v6, v6'⟩ := m_adv hl hx (p := 0) (Nat.zero_le _) (ht0.fr g1) (by rw [a2 3 (by decide), up_eq]; rfl)
  have g2 := g1.nb b1 b2
  have w7 : V2 96 7 = -1 := by rw [b2 7 (by decide) (by decide) (by decide) (by decide), a2 7 (by decide), up_k (by decide), up_eq]
  obtain ⟨l, V3, e3, g3, q⟩ := m_loop hl hx ht0 (k := m_kH) 101 0 0 300 V2 r0 (by omega) (by decide) (Nat.zero_le _) g2 w7 ⟨v3, v5, v4, v6, v6'⟩ (mRs1.nb hr1 b1 b2) r0_ok
  have g := g_all (x := x) 101 0 0 r0 (Nat.zero_le _) (Nat.le_refl _) r0_ok
  have e : f_X7_house V = m_kH l V3 := by
    unfold f_X7_house
    rw [e1, x_b1_some, e2, x_b1_some]
    exact e3
  unfold hOut
  rw [e]
  unfold m_kH
  have f3 : frM V V3 := fun a ha => by rw [g3.1 a (by omega) (by omega) (by omega) (by omega), up_a (by omega)]
  cases hq : pAll x 101 r0 0 0 with
  | inl s =>
    rw [hq] at q
    obtain ⟨hs, u7⟩ := q
    rw [m_ill (s := s) (by omega) u7, x_b2_some, if_pos rfl, u7]
    exact ⟨V3, rfl, h0.rd g3, f3⟩
  | inr o =>
    rw [hq] at q g
    obtain ⟨rfl, u7, hr⟩ := q
    obtain ⟨V4, e4, md, f4⟩ := m_settles hr g.1
    rw [m_well u7, x_b2_some, if_neg (by decide), e4, x_b1_some]
    exact ⟨V4, rfl, md, f3.tr f4⟩
end HS
theorem st_house (z : sS) (hz : okS z) : stp f_X6_house (fun _ => f_X7_house) z := by
  obtain ⟨x, d, w, hi, im, se⟩ := z
  obtain ⟨o1, o2, -⟩ := hz.split
  have C := fun (V : xV) (h : Cls (x, d, w, hi, im, se) V) => c_house o1 o2 h
  have M := fun (V : xV) (h : Mdl (x, d, w, hi, im, se) V) => m_house o1 o2 h
  have g := g_all (x := x) 101 0 0 r0 (Nat.zero_le _) (Nat.le_refl _) r0_ok
  unfold hOut at C M
  cases hq : pAll x 101 r0 0 0 with
  | inl s =>
    rw [hq] at C M
    exact ⟨_, _, hz, C, fun V h => ⟨0, M V h⟩⟩
  | inr o =>
    rw [hq] at C M g
    obtain ⟨⟨g1, g2, g3, g4⟩, g5⟩ := g
    exact ⟨_, _, ⟨Nat.zero_le _, fun c hc => absurd hc List.not_mem_nil, g1, g2, Nat.zero_le _, fun w hw => absurd hw List.not_mem_nil, fun w hw => (by cases hw), fun w hw => (by cases hw), Nat.zero_le _⟩, C, fun V h => ⟨0, M V h⟩⟩
