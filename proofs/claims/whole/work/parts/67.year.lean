/-! THE PLAN -/
def cHold (V : xV) (d : sT) (w : sW) : Prop := V 73 5 = oI (p_chg d w none) ∧ (∀ q, p_best d w none = some q → V 73 6 = nI q.2.1 ∧ ∀ j, j < p_N d → V 74 j = nI (p_at q.2.2 j)) ∧ ∀ t, t < d.1 → V 75 t = -5 ∨ V 75 t = oI (p_chg d w (some t))
theorem p_best_8 {d : sT} {w : sW} {br : Option Nat} (hd : okT d) {q : Nat × Nat × List Nat} (hq : p_best d w br = some q) : q.1 ≤ 6 ∧ q.2.1 ≤ 240 ∧ q.2.2 ∈ p_all d w br 0 ∧ q.2.2.length = p_N d := by
  obtain ⟨-, x, hx, rfl⟩ := p_best_min hq
  have hC1 := hd.2.2.2.1
  have hC2 := hd.2.2.2.2.1
  have h4 := p_N4 hd
  have h6 := p_ch_le6 hC1 x
  have hl := mem_all hx
  rw [hl] at h6
  exact ⟨by show p_ch d x ≤ 6; omega, p_mo_le hd x (by omega), hx, hl⟩
theorem oI_5 {d : sT} {w : sW} {br : Option Nat} (hd : okT d) : oI (p_chg d w br) ≠ -5 := by
  unfold p_chg
  cases h : p_best d w br with
  | none => decide
  | some q =>
    have := (p_best_8 hd h).1
    show nI q.1 ≠ -5
    rw [ne_eq, i_eq, i_n (by omega), show (-5 : Int32).toInt = -5 from rfl]
    omega
theorem oI_9 {d : sT} {w : sW} {br : Option Nat} (hd : okT d) : oI (p_chg d w br) = -9 ↔ p_best d w br = none := by
  unfold p_chg
  cases h : p_best d w br with
  | none => exact ⟨fun _ => rfl, fun _ => rfl⟩
  | some q =>
    have := (p_best_8 hd h).1
    refine ⟨fun e => ?_, fun e => by cases e⟩
    have e : nI q.1 = -9 := e
    rw [i_eq, i_n (by omega), show (-9 : Int32).toInt = -9 from rfl] at e
    omega
section YR
variable {x : List Int32} {d : sT} {w : sW} {hi : List sW} {im : Option sW × Option sW} {se : List Int32} {V V' : xV}
theorem Cls.ca (h : Cls (x, d, w, hi, im, se) V) (hh : cHold V' d w) (e : ∀ a, a < 73 ∨ 86 ≤ a → V' a = V a) : Cls (x, d, w, hi, im, se) V' := by
  obtain ⟨h1, h2, h3, h4, h5, h6, h7⟩ := h.split
  exact ⟨h1.cg (by rw [e 0 (by decide)]) (e 1 (by decide)), h2.cg (fun a _ _ => e a (by omega)), h3.cg (fun a _ _ => e a (by omega)), h4.cg (fun a _ _ => e a (by omega)), h5.cg (by rw [e 0 (by decide)]) (fun a _ _ => e a (by omega)), h6.cg (by rw [e 0 (by decide)]) (e 72 (by decide)), Or.inr hh⟩
theorem fl_ne {a n b : Nat} {v : Int32} (h : b ≠ a) : x_flV V a n v b = V b := by simp [x_flV, h]
theorem c_now (hz : okS (x, d, w, hi, im, se)) (h : Cls (x, d, w, hi, im, se) V) : ∃ V', f_X5_changesNow V = some (oI (p_chg d w none), V') ∧ Cls (x, d, w, hi, im, se) V' ∧ frC V V' ∧ cHold V' d w := by
  obtain ⟨o1, o2, o3, o4, -⟩ := hz.split
  obtain ⟨h1, h2, h3, h4, h5, h6, h7⟩ := h.split
  have nb : ∀ x, (none : Option Nat) = some x → x < d.1 := fun x h => by cases h
  by_cases hc : V 73 5 = -5
  · obtain ⟨V1, e1, f1⟩ := c_can o3 o4 h2 h3 nb (more := 0) (by decide)
    have e1 : f_X2_canBeFilled 6 0 V = some (bI (!(p_all d w none 0).isEmpty), V1) := e1
    unfold f_X5_changesNow
    rw [if_pos hc, e1, x_b2_some]
    cases hb : p_best d w none with
    | none =>
      have hL := p_best_nil.mp hb
      rw [hL, if_pos (by decide)]
      unfold f_X2_bestMost f_X2_copyBestTo x_filA
      simp only [x_b2_some, x_b1_some]
      refine ⟨x_flV (x_cpV (x_up (x_up V1 73 5 (-9)) 73 6 (x_up V1 73 5 (-9) 76 15)) 83 74 8) 75 6 (-5), ?_, ?_⟩
      · rw [fl_ne (by decide), cp_ne (by decide), up_k (by decide), up_eq]
        unfold p_chg
        rw [hb]
        rfl
      · have hh : cHold (x_flV (x_cpV (x_up (x_up V1 73 5 (-9)) 73 6 (x_up V1 73 5 (-9) 76 15)) 83 74 8) 75 6 (-5)) d w := by
          refine ⟨?_, fun q hq => (by rw [hb] at hq; cases hq), fun t ht => Or.inl ?_⟩
          · rw [fl_ne (by decide), cp_ne (by decide), up_k (by decide), up_eq]
            unfold p_chg
            rw [hb]
            rfl
          · have := o3.1
            have : t < 6 := by omega
            simp [x_flV, this]
        refine ⟨h.ca hh (fun a ha => by rw [fl_ne (by omega), cp_ne (by omega), up_a (by omega), up_a (by omega), f1 a (by omega)]), fun a ha => by rw [fl_ne (by omega), cp_ne (by omega), up_a (by omega), up_a (by omega), f1 a (by omega)], hh⟩
    | some q =>
      have hL : (p_all d w none 0).isEmpty = false := by
        cases hp : p_all d w none 0 with
        | nil => rw [p_best_nil.mpr hp] at hb; cases hb
        | cons _ _ => rfl
      obtain ⟨V2, e2, f2, g2⟩ := c_few (V := V1) o3 o4 (h2.cg (fun a _ _ => f1 a (by omega))) (h3.cg (fun a _ _ => f1 a (by omega))) nb hb (B := 0) (Nat.zero_le _) (any := false)
      have e2 : f_X2_fewestChanges 6 0 0 V1 = some (nI q.1, V2) := e2
      obtain ⟨g3, g4⟩ := g2 rfl
      have hN := p_N8 o3
      rw [hL, if_neg (by decide), e2, x_b2_some]
      unfold f_X2_bestMost f_X2_copyBestTo x_filA
      simp only [x_b2_some, x_b1_some]
      have v5 : x_flV (x_cpV (x_up (x_up V2 73 5 (nI q.1)) 73 6 (x_up V2 73 5 (nI q.1) 76 15)) 83 74 8) 75 6 (-5) 73 5 = oI (p_chg d w none) := by
        rw [fl_ne (by decide), cp_ne (by decide), up_k (by decide), up_eq]
        unfold p_chg
        rw [hb]
        rfl
      refine ⟨x_flV (x_cpV (x_up (x_up V2 73 5 (nI q.1)) 73 6 (x_up V2 73 5 (nI q.1) 76 15)) 83 74 8) 75 6 (-5), by rw [v5], ?_⟩
      have hh : cHold (x_flV (x_cpV (x_up (x_up V2 73 5 (nI q.1)) 73 6 (x_up V2 73 5 (nI q.1) 76 15)) 83 74 8) 75 6 (-5)) d w := by
        refine ⟨v5, fun q' hq => ?_, fun t ht => Or.inl ?_⟩
        · rw [hb] at hq
          cases hq
          refine ⟨by rw [fl_ne (by decide), cp_ne (by decide), up_eq, up_a (by decide)]; exact g3, fun j hj => ?_⟩
          rw [fl_ne (by decide), cp_y (by omega), up_a (by decide), up_a (by decide)]
          exact g4 j hj
        · have := o3.1
          have : t < 6 := by omega
          simp [x_flV, this]
      have fr : ∀ a, a < 73 ∨ 86 ≤ a → x_flV (x_cpV (x_up (x_up V2 73 5 (nI q.1)) 73 6 (x_up V2 73 5 (nI q.1) 76 15)) 83 74 8) 75 6 (-5) a = V a := fun a ha => by rw [fl_ne (by omega), cp_ne (by omega), up_a (by omega), up_a (by omega), f2 a (by omega), f1 a (by omega)]
      exact ⟨h.ca hh fr, fun a ha => fr a (by omega), hh⟩
  · rcases h7 with h7 | h7
    · exact absurd h7 hc
    · refine ⟨V, ?_, h, frC.rf, h7⟩
      unfold f_X5_changesNow
      rw [if_neg hc, h7.1]
end YR
/-! broken things -/
theorem p_al_br {d : sT} {w : sW} {t j u : Nat} : p_al d w (some t) j u = (decide (u ≠ t) && p_al d w none j u) := by
  unfold p_al
  simp only [ne_eq, Option.some.injEq, reduceCtorEq, not_false_iff, decide_true, Bool.true_and]
  rw [show (decide ¬t = u) = decide ¬u = t from decide_eq_decide.mpr ⟨fun h e => h e.symm, fun h e => h e.symm⟩, Bool.and_assoc]
theorem ok_br {d : sT} {w : sW} {t more : Nat} : ∀ l : List Nat, g_ok d.1 (p_pl d w (some t) more) l ↔ g_ok d.1 (p_pl d w none more) l ∧ t ∉ l := by
  intro l
  induction l with
  | nil => exact ⟨fun _ => ⟨trivial, List.not_mem_nil⟩, fun _ => trivial⟩
  | cons y l ih =>
    simp only [g_ok, ih, List.mem_cons, not_or]
    have e : p_pl d w (some t) more l y = (decide (y ≠ t) && p_pl d w none more l y) := by
      rw [p_pl_eq, p_pl_eq, p_al_br, Bool.and_assoc, Bool.and_assoc, Bool.and_assoc]
    rw [e, Bool.and_eq_true, decide_eq_true_eq]
    constructor
    · rintro ⟨a, ⟨b, c⟩, e, f⟩
      exact ⟨⟨a, c, e⟩, fun q => b q.symm, f⟩
    · rintro ⟨⟨a, c, e⟩, b, f⟩
      exact ⟨a, ⟨fun q => b q.symm, c⟩, e, f⟩
theorem all_iff {d : sT} {w : sW} {br : Option Nat} {more : Nat} {l : List Nat} : l ∈ p_all d w br more ↔ l.length = p_N d ∧ g_ok d.1 (p_pl d w br more) l := by
  unfold p_all
  rw [p_ext_gx]
  constructor
  · intro h
    have := (gx_mem _ _ _ h).1
    rw [List.length_nil, Nat.zero_add] at this
    exact ⟨this, gx_ok _ _ _ (show g_ok d.1 (p_pl d w br more) [] from trivial) h⟩
  · rintro ⟨h1, h2⟩
    have := ok_gx (p_N d) [] l h1 (by rw [List.append_nil]; exact h2)
    rw [List.append_nil] at this
    exact this
theorem all_br {d : sT} {w : sW} {t more : Nat} {l : List Nat} : l ∈ p_all d w (some t) more ↔ l ∈ p_all d w none more ∧ t ∉ l := by
  rw [all_iff, all_iff, ok_br, and_assoc]
theorem best_br_none {d : sT} {w : sW} {t : Nat} (h : p_best d w none = none) : p_best d w (some t) = none := by
  rw [p_best_nil] at h ⊢
  cases hp : p_all d w (some t) 0 with
  | nil => rfl
  | cons y ys =>
    have : y ∈ p_all d w none 0 := (all_br.mp (by rw [hp]; exact List.mem_cons_self)).1
    rw [h] at this
    cases this
theorem best_br_le {d : sT} {w : sW} {t : Nat} {q q' : Nat × Nat × List Nat} (h : p_best d w none = some q) (h' : p_best d w (some t) = some q') : q.1 ≤ q'.1 := by
  obtain ⟨-, x, hx, e⟩ := p_best_min h'
  rw [e]
  exact (p_best_min h).1 x (all_br.mp hx).1
theorem best_br_out {d : sT} {w : sW} {t : Nat} {q : Nat × Nat × List Nat} (hd : okT d) (h : p_best d w none = some q) (ht : t ∉ q.2.2) : p_chg d w (some t) = some q.1 := by
  obtain ⟨m1, x, hx, e⟩ := p_best_min h
  have hq : q.2.2 ∈ p_all d w (some t) 0 := all_br.mpr ⟨(p_best_8 hd h).2.2.1, ht⟩
  unfold p_chg
  cases h' : p_best d w (some t) with
  | none => rw [p_best_nil.mp h'] at hq; cases hq
  | some q' =>
    have le := best_br_le h h'
    have ge := (p_best_min h').1 _ hq
    have : p_ch d q.2.2 = q.1 := by rw [e]
    show some q'.1 = some q.1
    congr 1
    omega
