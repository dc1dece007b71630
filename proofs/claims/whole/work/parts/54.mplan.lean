/-! the reference's plan -/
theorem p_ch_app (d : sT) : ∀ (y l : List Nat), p_ch d l ≤ p_ch d (y ++ l) := by
  intro y
  induction y with
  | nil => intro l; exact Nat.le_refl _
  | cons x y ih =>
    intro l
    have := ih l
    simp only [List.cons_append, p_ch]
    omega
theorem p_upd_le (d : sT) {a : Option (Nat × Nat × List Nat)} {x : List Nat} (h : aL a < p_ch d x) (hx : p_ch d x ≤ 8) : p_upd d a x = a := by
  cases a with
  | none => simp only [aL] at h; omega
  | some q =>
    simp only [aL] at h
    simp only [p_upd]
    rw [if_neg (by omega)]
theorem p_N8 {d : sT} (hd : okT d) : p_N d ≤ 8 := Nat.le_trans (Nat.mul_le_mul hd.2.2.1 hd.2.2.2.2.1) (by decide)
theorem m_best {d : sT} {w : sW} {V : xV} (hd : okT d) (hw : okW d w) (h0 : mTo V d) (hm : mW d (V 103) 0 w) {br : Option Nat} (hbr : ∀ x, br = some x → x < d.1) : ∃ F0 V', (∀ F, F0 ≤ F → f_X7_tries F (brI br) 0 V = some V') ∧ mFr V V' ∧ Ra0 d V' (p_best d w br) := by
  have hN := p_N8 hd
  have hN1 : 1 ≤ p_N d := Nat.mul_le_mul hd.2.1 hd.2.2.2.1
  obtain ⟨F0, V', e, f, r⟩ := m_tries (Ra := Ra0 d) (ft := ft0 d w br) (up := p_upd d) hd h0 (Or.inl rfl) (fun V V' a h1 h2 h => by
    cases a with
    | none => exact ⟨(h1 32 (Or.inl rfl)).trans h.1, (h1 33 (Or.inr rfl)).trans h.2⟩
    | some q => exact ⟨(h1 32 (Or.inl rfl)).trans h.1, (h1 33 (Or.inr rfl)).trans h.2.1, fun k hk => by rw [h2]; exact h.2.2.1 k hk, h.2.2.2⟩) (fun V1 l t a hB hl ht hp hR => m_fits0 hd hw h0 hm hbr V1 l t a hB hl ht hp hR) (fun V1 l a hB hl hR hft => by
      refine m_weigh0 hd h0 V1 l a hB hl hR ?_
      cases l with
      | nil => simp at hl; omega
      | cons t l' =>
        have := hft l' t rfl
        simp only [ft0, Bool.and_eq_true, decide_eq_true_eq] at this
        exact this.2) none (fun V1 h1 h2 => ⟨h1, h2⟩)
  refine ⟨F0, V', e, f, ?_⟩
  have g := gd_eq (T := d.1) (N := p_N d) (ft := ft0 d w br) (up := p_upd d) (pl := p_pl d w br 0) (fun _ => True) (fun _ => True) (fun _ _ _ _ _ => trivial) (fun _ _ _ _ => trivial) (fun a l t _ _ _ _ h => by
    simp only [ft0, Bool.and_eq_true] at h
    exact h.1) (fun a k l t x _ _ _ hk hp hf hx => by
      simp only [ft0, hp, Bool.true_and, decide_eq_false_iff_not] at hf
      obtain ⟨hl, y, rfl⟩ := gx_mem _ _ _ hx
      have h1 := p_ch_app d y (t :: l)
      have h2 := p_ch_le d (y ++ t :: l)
      simp only [p_ch] at h1
      rw [hl, List.length_cons] at h2
      exact p_upd_le d (by omega) (by omega)) (p_N d) [] none trivial trivial (by simp)
  rw [g.1, ← p_ext_gx] at r
  exact r
theorem Mdl.fr {z : sS} {V V' : xV} (h : Mdl z V) (f : mFr V V') : Mdl z V' := by
  obtain ⟨h1, h2, h3, h4, h5, h6⟩ := h
  obtain ⟨f1, f2⟩ := f
  exact ⟨h1.cg (f2 _ (by decide) (by decide)) (f1 _ (by decide) (by decide) (by decide) (by decide) (by decide)), h2.cg (f2 _ (by decide) (by decide)) (f2 _ (by decide) (by decide)) (f2 _ (by decide) (by decide)) (f1 _ (by decide) (by decide) (by decide) (by decide) (by decide)) (f1 _ (by decide) (by decide) (by decide) (by decide) (by decide)), by rw [f1 _ (by decide) (by decide) (by decide) (by decide) (by decide)]; exact h3, h4.cg (f2 _ (by decide) (by decide)) (f1 _ (by decide) (by decide) (by decide) (by decide) (by decide)), h5.cg (f1 _ (by decide) (by decide) (by decide) (by decide) (by decide)) (f1 _ (by decide) (by decide) (by decide) (by decide) (by decide)), h6.cg (f2 _ (by decide) (by decide)) (f1 _ (by decide) (by decide) (by decide) (by decide) (by decide))⟩
theorem mFr.frM {V V' : xV} (f : mFr V V') : frM V V' := fun a h => f.1 a (by omega) (by omega) (by omega) (by omega) (by omega)
section MP
variable {x : List Int32} {d : sT} {w : sW} {hi : List sW} {im : Option sW × Option sW} {se : List Int32} {V : xV}
theorem m_bestZ (hz : okS (x, d, w, hi, im, se)) (h : Mdl (x, d, w, hi, im, se) V) {br : Option Nat} (hbr : ∀ x, br = some x → x < d.1) : ∃ F0 V', (∀ F, F0 ≤ F → f_X7_tries F (brI br) 0 V = some V') ∧ Mdl (x, d, w, hi, im, se) V' ∧ frM V V' ∧ Ra0 d V' (p_best d w br) := by
  obtain ⟨o1, o2, o3, o4, -⟩ := hz.split
  obtain ⟨h1, h2, h3, -⟩ := h.split
  obtain ⟨F0, V', e, f, r⟩ := m_best o3 o4 h2 h3 hbr
  exact ⟨F0, V', e, h.fr f, f.frM, r⟩
theorem m_isPlan (hz : okS (x, d, w, hi, im, se)) (h : Mdl (x, d, w, hi, im, se) V) : ∃ F0 V', (∀ F, F0 ≤ F → f_X7_isPlan F V = some (bI (p_best d w none).isSome, V')) ∧ Mdl (x, d, w, hi, im, se) V' ∧ frM V V' ∧ Ra0 d V' (p_best d w none) := by
  obtain ⟨F0, V', e, m, f, r⟩ := m_bestZ hz h (br := none) (fun x hx => by cases hx)
  refine ⟨F0, V', fun F hF => ?_, m, f, r⟩
  unfold f_X7_isPlan
  rw [show f_X7_tries F (-1) 0 V = some V' from e F hF, x_b1_some]
  cases hb : p_best d w none with
  | none =>
    rw [hb] at r
    rw [if_pos (by rw [r.1]; decide)]
    rfl
  | some q =>
    rw [hb] at r
    have := r.2.2.2.1
    rw [if_neg (by rw [r.1, i_le, i_n (by omega), show (99 : Int32).toInt = 99 from rfl]; omega)]
    rfl
def wI (o : Option Nat) : Nat := o.getD 9
theorem m_without (hz : okS (x, d, w, hi, im, se)) (h : Mdl (x, d, w, hi, im, se) V) {br : Option Nat} (hbr : ∀ x, br = some x → x < d.1) : ∃ F0 V', (∀ F, F0 ≤ F → f_X7_without F (brI br) V = some (nI (wI (p_chg d w br)), V')) ∧ Mdl (x, d, w, hi, im, se) V' ∧ frM V V' := by
  obtain ⟨F0, V', e, m, f, r⟩ := m_bestZ hz h (br := br) hbr
  refine ⟨F0, V', fun F hF => ?_, m, f⟩
  unfold f_X7_without
  rw [e F hF, x_b1_some]
  unfold p_chg
  cases hb : p_best d w br with
  | none =>
    rw [hb] at r
    rw [if_pos (by rw [r.1]; decide)]
    rfl
  | some q =>
    rw [hb] at r
    have := r.2.2.2.1
    rw [if_neg (by rw [r.1, i_le, i_n (by omega), show (99 : Int32).toInt = 99 from rfl]; omega), r.1]
    rfl
end MP
