/-! whether there is any plan -/
section CN
variable {d : sT} {w : sW}
theorem slotD (hd : okT d) (r : Nat) {b : Nat} (hb : b < d.2.2.1) : (r * d.2.2.1 + b) / d.2.2.1 = r ∧ (r * d.2.2.1 + b) % d.2.2.1 = b := by
  refine ⟨by rw [Nat.mul_comm, Nat.mul_add_div (by omega), Nat.div_eq_of_lt hb, Nat.add_zero], by rw [Nat.mul_comm, Nat.mul_add_mod, Nat.mod_eq_of_lt hb]⟩
theorem slotN (hd : okT d) {r b : Nat} (hr : r < d.2.1) (hb : b < d.2.2.1) : r * d.2.2.1 + b < p_N d := by
  unfold p_N
  have : (r + 1) * d.2.2.1 ≤ d.2.1 * d.2.2.1 := Nat.mul_le_mul_right _ hr
  rw [Nat.succ_mul] at this
  omega
theorem slotE (hd : okT d) {j : Nat} (hj : j < p_N d) : ∃ r b, j = r * d.2.2.1 + b ∧ r < d.2.1 ∧ b < d.2.2.1 :=
  ⟨j / d.2.2.1, j % d.2.2.1, (Nat.div_add_mod' j d.2.2.1).symm, div_lt_S hd hj, Nat.mod_lt _ hd.2.2.2.1⟩
set_option maxHeartbeats 1000000 in
theorem gPl_tu (hd : okT d) {tu iv : Nat → Nat} (htu : tuOk d tu iv) {br : Option Nat} {cp : Nat → Nat} {cf : Nat → Nat → Bool} {g' : Nat → Nat} (h : gPl (dTu d iv) (alTu d w br iv) cp cf g') : ∃ g, gPl d (p_al d w br) cp cf g := by
  obtain ⟨h1, h2⟩ := h
  refine ⟨fun j => g' (tu (j / d.2.2.1) * d.2.2.1 + j % d.2.2.1), fun j hj => ?_, fun t ht => ?_⟩
  · obtain ⟨s, b, rfl, hs, hb⟩ := slotE hd hj
    obtain ⟨e1, e2⟩ := slotD hd s hb
    obtain ⟨i1, i2⟩ := slotD hd (tu s) hb
    obtain ⟨a1, a2, a3⟩ := h1 (tu s * d.2.2.1 + b) (slotN hd (htu.1 s hs).1 hb)
    have a3 : (tu s * d.2.2.1 + b) % d.2.2.1 ≠ 0 → _ := a3
    unfold alTu at a2
    rw [i1, i2, (htu.1 s hs).2] at a2
    rw [i2] at a3
    simp only [e1, e2]
    refine ⟨a1, a2, fun hm => ?_⟩
    have hb1 : b - 1 < d.2.2.1 := by omega
    obtain ⟨k1, k2⟩ := slotD hd s hb1
    have := a3 hm
    rw [show s * d.2.2.1 + b - 1 = s * d.2.2.1 + (b - 1) by omega, k1, k2]
    rw [show tu s * d.2.2.1 + b - 1 = tu s * d.2.2.1 + (b - 1) by omega] at this
    exact this
  · rw [← q_tot hd htu]
    have := h2 t ht
    rw [q_S_cg (g' := g') (p_N d) (fun j hj => ?_)]
    · exact this
    · obtain ⟨r, b, rfl, hr, hb⟩ := slotE hd hj
      obtain ⟨e1, e2⟩ := slotD hd r hb
      obtain ⟨i1, i2⟩ := slotD hd (iv r) hb
      simp only [e1, e2, i1, i2, (htu.2 r hr).2]
theorem gPl_ut (hd : okT d) {tu iv : Nat → Nat} (htu : tuOk d tu iv) {br : Option Nat} {cp : Nat → Nat} {cf : Nat → Nat → Bool} {g : Nat → Nat} (h : gPl d (p_al d w br) cp cf g) : gPl (dTu d iv) (alTu d w br iv) cp cf (fun j => g (iv (j / d.2.2.1) * d.2.2.1 + j % d.2.2.1)) := by
  obtain ⟨h1, h2⟩ := h
  refine ⟨fun j hj => ?_, fun t ht => by rw [show p_N (dTu d iv) = p_N d from rfl, q_tot hd htu]; exact h2 t ht⟩
  have hj : j < p_N d := hj
  obtain ⟨r, b, rfl, hr, hb⟩ := slotE hd hj
  obtain ⟨e1, e2⟩ := slotD hd r hb
  obtain ⟨a1, a2, a3⟩ := h1 (iv r * d.2.2.1 + b) (slotN hd (htu.2 r hr).1 hb)
  obtain ⟨i1, i2⟩ := slotD hd (iv r) hb
  rw [i2] at a3
  simp only [alTu, e1, e2]
  refine ⟨a1, a2, fun hm => ?_⟩
  have hm : (r * d.2.2.1 + b) % d.2.2.1 ≠ 0 := hm
  rw [e2] at hm
  have hb1 : b - 1 < d.2.2.1 := by omega
  obtain ⟨k1, k2⟩ := slotD hd r hb1
  have := a3 hm
  rw [show r * d.2.2.1 + b - 1 = r * d.2.2.1 + (b - 1) by omega, k1, k2]
  rw [show iv r * d.2.2.1 + b - 1 = iv r * d.2.2.1 + (b - 1) by omega] at this
  exact this
theorem gPl_sw (hd : okT d) {al : Nat → Nat → Bool} {cp : Nat → Nat} {cf : Nat → Nat → Bool} (hsy : ∀ a b, a < d.1 → b < d.1 → cf a b = cf b a) {op : Nat → Nat} (ho : q_op d al cp cf op) {g : Nat → Nat} (h : gPl d al cp cf g) : ∃ g', gPl d al cp cf g' ∧ ∀ j, j < p_N d → j % d.2.2.1 ≠ 0 → (true && decide (op j = op (j - 1))) = true → g' (j - 1) ≤ g' j := by
  have hC1 := hd.2.2.2.1
  have hC2 := hd.2.2.2.2.1
  by_cases hC : d.2.2.1 = 1
  · exact ⟨g, h, fun j _ hm => by rw [hC] at hm; omega⟩
  have hC : d.2.2.1 = 2 := by omega
  have hNe : p_N d = d.2.1 * 2 := by unfold p_N; rw [hC]
  obtain ⟨h1, h2⟩ := h
  have lt_cp : ∀ j, j < p_N d → p_lt d j ≤ cp (g j) := by
    intro j hj
    have q1 := q_S_lt (d := d) g j
    have q2 := q_S_le d g (g j) (j + 1) (p_N d - (j + 1))
    rw [show j + 1 + (p_N d - (j + 1)) = p_N d by omega] at q2
    have q3 := h2 (g j) (h1 j hj).1
    omega
  have bits : ∀ s, 2 * s + 1 < p_N d → cf (g (2 * s + 1)) (g (2 * s)) = false ∧ (op (2 * s)).testBit (g (2 * s)) = true ∧ (op (2 * s + 1)).testBit (g (2 * s + 1)) = true := by
    intro s hs
    obtain ⟨a1, a2, -⟩ := h1 (2 * s) (by omega)
    obtain ⟨b1, b2, b3⟩ := h1 (2 * s + 1) hs
    have b3 := b3 (by rw [hC]; omega)
    rw [Nat.add_sub_cancel] at b3
    exact ⟨b3, ho.2.2.2 hC s _ _ hs a1 b1 a2 b2 (lt_cp _ (by omega)) (lt_cp _ hs) b3⟩
  let sp : Nat → Bool := fun s => decide (op (2 * s + 1) = op (2 * s)) && decide (g (2 * s + 1) < g (2 * s))
  let g' : Nat → Nat := fun j => if sp (j / 2) then (if j % 2 = 0 then g (j + 1) else g (j - 1)) else g j
  have e0 : ∀ s, g' (2 * s) = if sp s then g (2 * s + 1) else g (2 * s) := by
    intro s
    show (if sp (2 * s / 2) then (if 2 * s % 2 = 0 then g (2 * s + 1) else g (2 * s - 1)) else g (2 * s)) = _
    rw [show 2 * s / 2 = s by omega, show 2 * s % 2 = 0 by omega]
    rfl
  have e1 : ∀ s, g' (2 * s + 1) = if sp s then g (2 * s) else g (2 * s + 1) := by
    intro s
    show (if sp ((2 * s + 1) / 2) then (if (2 * s + 1) % 2 = 0 then g (2 * s + 1 + 1) else g (2 * s + 1 - 1)) else g (2 * s + 1)) = _
    rw [show (2 * s + 1) / 2 = s by omega, show (2 * s + 1) % 2 = 1 by omega]
    rfl
  refine ⟨g', ⟨fun j hj => ?_, fun t ht => ?_⟩, fun j hj hm hs => ?_⟩
  · rcases Nat.mod_two_eq_zero_or_one j with hm | hm
    · obtain ⟨s, rfl⟩ : ∃ s, j = 2 * s := ⟨j / 2, by omega⟩
      obtain ⟨c1, c2, c3⟩ := bits s (by omega)
      rw [e0]
      cases hsp : sp s with
      | false =>
        simp only [Bool.false_eq_true, if_false]
        exact ⟨(h1 _ hj).1, (h1 _ hj).2.1, fun hm => by rw [hC] at hm; omega⟩
      | true =>
        simp only [if_true]
        have hsp := hsp
        simp only [sp, Bool.and_eq_true, decide_eq_true_eq] at hsp
        rw [hsp.1] at c3
        have b1 := (h1 (2 * s + 1) (by omega)).1
        exact ⟨b1, (ho.2.1 _ _ hj b1 c3).1, fun hm => by rw [hC] at hm; omega⟩
    · obtain ⟨s, rfl⟩ : ∃ s, j = 2 * s + 1 := ⟨j / 2, by omega⟩
      obtain ⟨c1, c2, c3⟩ := bits s (by omega)
      rw [Nat.add_sub_cancel, e0, e1]
      have a1 := (h1 (2 * s) (by omega)).1
      have b1 := (h1 (2 * s + 1) hj).1
      cases hsp : sp s with
      | false =>
        simp only [Bool.false_eq_true, if_false]
        exact ⟨b1, (h1 _ hj).2.1, fun _ => c1⟩
      | true =>
        simp only [if_true]
        have hsp := hsp
        simp only [sp, Bool.and_eq_true, decide_eq_true_eq] at hsp
        rw [← hsp.1] at c2
        exact ⟨a1, (ho.2.1 _ _ hj a1 c2).1, fun _ => by rw [hsy _ _ a1 b1]; exact c1⟩
  · have z : q_z d g' t = q_z d g t := by
      funext s
      unfold q_z
      rw [hC, show s * 2 = 2 * s by omega, e0, e1]
      cases sp s with
      | false => rfl
      | true =>
        simp only [if_true, true_and]
        omega
    have := h2 t ht
    show q_S d g' t (d.2.1 * d.2.2.1) ≤ cp t
    rw [q_S_z hd, z, ← q_S_z hd]
    exact this
  · rw [hC] at hm
    obtain ⟨s, rfl⟩ : ∃ s, j = 2 * s + 1 := ⟨j / 2, by omega⟩
    rw [Nat.add_sub_cancel, Bool.true_and, decide_eq_true_eq] at hs
    rw [Nat.add_sub_cancel, e0, e1]
    cases hsp : sp s with
    | false =>
      simp only [Bool.false_eq_true, if_false]
      have hsp := hsp
      simp only [sp, hs, decide_true, Bool.true_and, decide_eq_false_iff_not] at hsp
      omega
    | true =>
      simp only [if_true]
      have hsp := hsp
      simp only [sp, Bool.and_eq_true, decide_eq_true_eq] at hsp
      omega
theorem can_iff (hd : okT d) (hw : okW d w) {tu iv : Nat → Nat} (htu : tuOk d tu iv) {br : Option Nat} {more : Nat} {op : Nat → Nat} (ho : q_op (dTu d iv) (alTu d w br iv) (p_cp d w more) (p_cf w) op) : gx d.1 (g_pl (dTu d iv) (alTu d w br iv) (p_cp d w more) (p_cf w) (fun j => true && decide (op j = op (j - 1)))) (p_N d) [] ≠ [] ↔ p_all d w br more ≠ [] := by
  have hd' := okT_tu hd htu
  have A := gx_ne (d := dTu d iv) (al := alTu d w br iv) (cp := p_cp d w more) (cf := p_cf w) (sw := fun j => true && decide (op j = op (j - 1))) hd'.2.2.2.1
  have B := gx_ne (d := d) (al := p_al d w br) (cp := p_cp d w more) (cf := p_cf w) (sw := fun _ => false) hd.2.2.2.1
  have e : gx d.1 (g_pl d (p_al d w br) (p_cp d w more) (p_cf w) (fun _ => false)) (p_N d) [] = p_all d w br more := by
    unfold p_all
    rw [p_ext_gx]
    congr 1
    funext l t
    rw [p_pl_g]
  rw [e] at B
  refine A.trans (Iff.trans ?_ B.symm)
  constructor
  · rintro ⟨g', h, -⟩
    obtain ⟨g, hg⟩ := gPl_tu hd htu h
    exact ⟨g, hg, fun j _ _ h => by cases h⟩
  · rintro ⟨g, h, -⟩
    exact gPl_sw hd' (fun a b ha hb => p_cf_sy hd hw a b ha hb) ho (gPl_ut hd htu h)
theorem c_can (hd : okT d) (hw : okW d w) {V : xV} (hto : cTo V d) (hc : cW d V 5 w) {br : Option Nat} (hbr : ∀ x, br = some x → x < d.1) {more : Nat} (hm : more ≤ 99) : ∃ V', f_X2_canBeFilled (nI (bkN br)) (nI more) V = some (bI (!(p_all d w br more).isEmpty), V') ∧ ∀ a, a < 76 ∨ 86 ≤ a → V' a = V a := by
  have hS := hd.2.2.1
  have hC1 := hd.2.2.2.1
  have hC2 := hd.2.2.2.2.1
  obtain ⟨iv, htu⟩ := tu_rank hd
  have hd' := okT_tu hd htu
  have h4 := p_N4 hd
  obtain ⟨V1, op, ru, e1, hP, ho, hr, z1, z2, z3, fr⟩ := c_prep hd hw hto hc hm hbr (fr := true) htu (fun k n V s hV hs => by
    rw [f_X2_prepare_L125, hV.2.1, if_neg (by rw [i_le, i_n (by omega), i_n (by omega)]; omega), if_neg (by decide), c_rank hd hV hs, x_b2_some]
    have : f_X3_slotOf_2 (nI (p_rank d s)) (0 : Int32) V = some (nI (p_rank d s * d.2.2.1), V) := by
      unfold f_X3_slotOf_2
      rw [hV.2.2.1, pk_mul, show (0 : Int32) = nI 0 from rfl, nI_add]
      rfl
    rw [this, x_b2_some, nI_1])
  obtain ⟨V2, e2, b2, r2⟩ := c_go hd' (hP true) ho (fun t ht => p_cp_le hd hm t ht) hr (fun u hu => foN_ok hd hw u hu) (B := 6) (by decide) (V := x_up V1 76 12 (bI true)) ⟨⟨fun _ _ _ _ _ _ => rfl, fun _ _ _ _ => rfl⟩, fun i hi => by simp at hi, fun t ht => by rw [up_a (by decide), z1 t ht]; rfl, trivial, fun x hx => absurd hx List.not_mem_nil⟩ (a := none) ⟨by rw [up_k (by decide), z3]; rfl, by rw [up_k (by decide)]; exact z2⟩
  have ci := can_iff hd hw htu ho
  generalize hL : gx (dTu d iv).1 (g_pl (dTu d iv) (alTu d w br iv) (p_cp d w more) (p_cf w) (fun j => true && decide (op j = op (j - 1)))) (p_N (dTu d iv)) [] = L at r2
  have ci : L ≠ [] ↔ p_all d w br more ≠ [] := by rw [← hL]; exact ci
  have len : ∀ x ∈ L, x.length = p_N d := by
    intro x hx
    rw [← hL] at hx
    have := (gx_mem _ _ _ hx).1
    rw [List.length_nil, Nat.zero_add] at this
    exact this
  have some_iff := q_up_some (d := dTu d iv) (any := true) (B := 6) L none (fun x hx => p_mo_le hd' x (by rw [len x hx]; exact Nat.le_refl _))
  have val : V2 76 14 = bI (!(p_all d w br more).isEmpty) := by
    cases hf : L.foldl (q_up (dTu d iv) true 6) none with
    | none =>
      rw [hf] at r2 some_iff
      have : p_all d w br more = [] := by
        cases hp : p_all d w br more with
        | nil => rfl
        | cons y ys =>
          exfalso
          have hne : L ≠ [] := ci.mpr (by rw [hp]; simp)
          obtain ⟨x, hx⟩ := List.exists_mem_of_ne_nil _ hne
          have h6 := p_ch_le6 (d := dTu d iv) hC1 x
          rw [len x hx] at h6
          have h6 : p_ch (dTu d iv) x ≤ p_N d - d.2.2.1 := h6
          have := some_iff.mpr (Or.inr ⟨x, hx, by omega⟩)
          cases this
      rw [this]
      exact r2.2
    | some p =>
      rw [hf] at r2 some_iff
      rcases some_iff.mp rfl with h | ⟨x, hx, -⟩
      · cases h
      · have hne : p_all d w br more ≠ [] := ci.mp (List.ne_nil_of_mem hx)
        have : (p_all d w br more).isEmpty = false := by
          cases hp : p_all d w br more with
          | nil => exact absurd hp hne
          | cons _ _ => rfl
        rw [this]
        exact r2.2.1
  refine ⟨V2, ?_, fun a ha => ?_⟩
  · unfold f_X2_canBeFilled
    rw [show f_X2_prepare (nI (bkN br)) (nI more) (1 : Int32) V = some V1 from e1, x_b1_some, show f_fill 10 0 6 0 (x_up V1 76 12 1) = some V2 from e2, x_b1_some, val, if_pos (by cases (p_all d w br more).isEmpty <;> decide)]
  · rw [b2.1.1 a (by omega) (by omega) (by omega) (by omega) (by omega), up_a (by omega), fr a ha]
end CN
