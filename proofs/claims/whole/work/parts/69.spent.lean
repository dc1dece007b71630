theorem best_at {d : sT} {w : sW} {br : Option Nat} {q : Nat × Nat × List Nat} (hd : okT d) (hq : p_best d w br = some q) : ∀ j, j < p_N d → p_at q.2.2 j < d.1 := by
  obtain ⟨-, -, h1, h2⟩ := p_best_8 hd hq
  have := (all_iff.mp h1).2
  have e : p_pl d w br 0 = g_pl d (p_al d w br) (p_cp d w 0) (p_cf w) (fun _ => false) := by funext l t; exact p_pl_g d w br 0 l t
  rw [e] at this
  intro j hj
  exact (ok_at _ this j (by omega)).1
theorem m_sh29 {d : sT} {l : List Nat} {V : xV} (hd : okT d) (h0 : mTo V d) (hl : ∀ j, j < p_N d → p_at l j < 6) (h111 : ∀ j, j < p_N d → V 111 j = nI (p_at l j)) {F : Nat} {s : Nat} (hs : s < d.2.1) : ∀ (m b n : Nat), m + b = d.2.2.1 → m < n → f_X7_shown_L29 F (nI s) n (fun l2_11 l3_12 V13 => some (l2_11, V13)) (nI (p_sh d l s b)) (nI b) V = some (nI (p_sh d l s d.2.2.1), V) := by
  have hC2 := hd.2.2.2.2.1
  intro m
  induction m with
  | zero =>
    intro b n hb hn
    obtain ⟨n, rfl⟩ : ∃ q, n = q + 1 := ⟨n - 1, by omega⟩
    obtain rfl : b = d.2.2.1 := by omega
    rw [f_X7_shown_L29, h0.2.2.1, if_pos (by rw [i_le]; exact Int.le_refl _)]
  | succ m ih =>
    intro b n hb hn
    obtain ⟨n, rfl⟩ : ∃ q, n = q + 1 := ⟨n - 1, by omega⟩
    have h8 := slot8 hd hs (b := b) (by omega)
    have hN := slotN hd hs (b := b) (by omega)
    rw [f_X7_shown_L29, h0.2.2.1, if_neg (by rw [i_le, i_n (by omega), i_n (by omega)]; omega), pk_mul, nI_add, Nat.mul_comm d.2.2.1 s, if_pos (x_inN h8 (by decide)), i_c (by omega), h111 _ hN, (b_or _ (p_sh_lt hl hd hs b (by omega)) _ (hl _ hN)).1, nI_1]
    exact ih (b + 1) n (by omega) (by omega)
theorem st_shown (z : sS) (hz : okS z) (a : Int32) : stp (f_X6_shown a) (fun F => f_X7_shown F a) z := by
  obtain ⟨x, d, w, hi, im, se⟩ := z
  obtain ⟨o1, o2, o3, o4, o5, o6, o7, o8, o9⟩ := hz.split
  have hS := o3.2.2.1
  have hT := o3.1
  rcases i_arg a (n := d.2.1) (by omega) with ⟨s, hs, rfl⟩ | ha
  · refine stp.mk hz (match p_best d w none with | none => -9 | some q => nI (p_sh d q.2.2 s d.2.2.1)) (fun V h => ?_) (fun V h => ?_)
    · obtain ⟨V', e, k, f, hh⟩ := c_has hz h
      refine ⟨V', ?_, k, f⟩
      unfold f_X6_shown
      rw [c_se1 h.to.2.1 hs (by omega), x_b2_some, if_neg (by decide), e, x_b2_some]
      cases hb : p_best d w none with
      | none => rfl
      | some q =>
        have hl := best_at o3 hb
        rw [Option.isSome_some, if_neg (by decide), c_tin o3 k.to.2.2.1 (fun j hj => by have := hl j hj; omega) (hh.2.1 q hb).2 hs, x_b2_some]
    · obtain ⟨F, V', e, m, f, r⟩ := m_isPlan hz h.th
      refine ⟨F, V', ?_, m, frM.th.tr f⟩
      show f_X7_shown F _ V = _
      unfold f_X7_shown
      rw [m_se1 h.th.to.2.1 hs (by omega), x_b2_some, if_neg (by decide), e F (Nat.le_refl _), x_b2_some]
      cases hb : p_best d w none with
      | none => rfl
      | some q =>
        have hl := best_at o3 hb
        have hC2 := o3.2.2.2.2.1
        rw [hb] at r
        rw [Option.isSome_some, if_neg (by decide)]
        exact m_sh29 o3 m.to (fun j hj => by have := hl j hj; omega) r.2.2.1 hs d.2.2.1 0 300 rfl (by omega)
  · refine stp.same hz (-1) (fun V h => ?_) (fun V h => ?_)
    · unfold f_X6_shown
      rw [c_se0 h.to.2.1 (by omega) ha, x_b2_some, if_pos rfl]
    · show f_X7_shown 0 _ V = _
      unfold f_X7_shown
      rw [m_se0 h.th.to.2.1 (by omega) ha, x_b2_some, if_pos rfl]
/-! light had -/
def p_lov (d : sT) (b : Nat) : Nat → Nat
  | 0 => 0
  | s + 1 => p_lov d b s + (if b.testBit s then d.2.2.2.2 s else 0)
theorem c_lov {d : sT} {V : xV} (hd : okT d) (hto : cTo V d) {b : Nat} (hb : b < 64) : f_X3_lightOver_2 (nI b) V = some (nI (p_lov d b d.2.1), V) := by
  have hS := hd.2.2.1
  have key : ∀ (m s n : Nat), m + s = d.2.1 → m < n → f_X3_lightOver_2_L4 (nI b) n (fun l2_4 l3_5 V6 => some (l2_4, V6)) (nI (p_lov d b s)) (nI s) V = some (nI (p_lov d b d.2.1), V) := by
    intro m
    induction m with
    | zero =>
      intro s n hs hn
      obtain ⟨n, rfl⟩ : ∃ q, n = q + 1 := ⟨n - 1, by omega⟩
      obtain rfl : s = d.2.1 := by omega
      rw [f_X3_lightOver_2_L4, hto.2.1, if_pos (by rw [i_le]; exact Int.le_refl _)]
    | succ m ih =>
      intro s n hs hn
      obtain ⟨n, rfl⟩ : ∃ q, n = q + 1 := ⟨n - 1, by omega⟩
      have ih' := ih (s + 1) n (by omega) (by omega)
      simp only [p_lov] at ih'
      rw [f_X3_lightOver_2_L4, hto.2.1, if_neg (by rw [i_le, i_n (by omega), i_n (by omega)]; omega), b_bit b hb s (by omega), nI_1]
      cases ht : b.testBit s with
      | false =>
        rw [ht] at ih'
        rw [if_neg (by decide)]
        exact ih'
      | true =>
        rw [ht] at ih'
        rw [if_pos (by decide), if_pos (x_inN (by omega) (by decide)), i_c (by omega), hto.2.2.2.2 s (by omega), nI_add]
        exact ih'
  exact key d.2.1 0 300 rfl (by omega)
theorem m_lov {d : sT} {V : xV} (hd : okT d) (h0 : mTo V d) {b : Nat} (hb : b < 64) {F : Nat} {l1 l2 : Int32} {k : Int32 → Int32 → xV → Option (Int32 × xV)} : ∀ (m s n : Nat), m + s = d.2.1 → m < n → f_X7_spent_L44 F l1 l2 (nI b) n k (nI (p_lov d b s)) (nI s) V = k (nI (p_lov d b d.2.1)) (nI d.2.1) V := by
  have hS := hd.2.2.1
  intro m
  induction m with
  | zero =>
    intro s n hs hn
    obtain ⟨n, rfl⟩ : ∃ q, n = q + 1 := ⟨n - 1, by omega⟩
    obtain rfl : s = d.2.1 := by omega
    rw [f_X7_spent_L44, h0.2.1, if_pos (by rw [i_le]; exact Int.le_refl _)]
  | succ m ih =>
    intro s n hs hn
    obtain ⟨n, rfl⟩ : ∃ q, n = q + 1 := ⟨n - 1, by omega⟩
    have ih' := ih (s + 1) n (by omega) (by omega)
    simp only [p_lov] at ih'
    rw [f_X7_spent_L44, h0.2.1, if_neg (by rw [i_le, i_n (by omega), i_n (by omega)]; omega), m_has hb (by omega), x_b2_some, nI_1]
    cases ht : b.testBit s with
    | false =>
      rw [ht] at ih'
      rw [if_pos bI_f, show nI (p_lov d b s) + 0 = nI (p_lov d b s + 0) from nI_add _ 0]
      exact ih'
    | true =>
      rw [ht] at ih'
      rw [if_neg (by decide), if_pos (x_inN (by omega) (by decide)), i_c (by omega), h0.2.2.2.2 s (by omega), nI_add]
      exact ih'
theorem st_spent (z : sS) (hz : okS z) (a b : Int32) : stp (f_X6_spent a b) (fun F => f_X7_spent F a b) z := by
  obtain ⟨x, d, w, hi, im, se⟩ := z
  obtain ⟨o1, o2, o3, o4, o5, o6, o7, o8, o9⟩ := hz.split
  have hS := o3.2.2.1
  have hT := o3.1
  rcases i_arg a (n := d.1) (by omega) with ⟨t, ht, rfl⟩ | ha
  · rcases i_arg b (n := 3) (by omega) with ⟨c, hc, rfl⟩ | hb
    · refine stp.mk hz (match p_best d w none with | none => -1000000 | some q => if c = 0 then nI (p_lov d (p_so d q.2.2 t d.2.1) d.2.1) else if c = 1 then nI (d.2.2.2.1 t) - nI (p_lov d (p_so d q.2.2 t d.2.1) d.2.1) else nI (p_so d q.2.2 t d.2.1)) (fun V h => ?_) (fun V h => ?_)
      · obtain ⟨V', e, k, f, hh⟩ := c_has hz h
        refine ⟨V', ?_, k, f⟩
        unfold f_X6_spent
        rw [c_th1 h.to.1 ht (by omega), x_b2_some, if_neg (by decide), if_neg (by rw [i_lt, i_n (by omega), i_0]; omega), if_neg (by rw [i_lt, i_n (by omega), show (2 : Int32).toInt = 2 from rfl]; omega), e, x_b2_some]
        cases hb : p_best d w none with
        | none => rfl
        | some q =>
          have hl := best_at o3 hb
          have hso := (p_so_lt (d := d) (l := q.2.2) t d.2.1 hS).1
          rw [Option.isSome_some, if_neg (by decide), c_so o3 k.to.2.1 k.to.2.2.1 (fun j hj => by have := hl j hj; omega) (hh.2.1 q hb).2 (by omega), x_b2_some]
          rcases (show c = 0 ∨ c = 1 ∨ c = 2 by omega) with rfl | rfl | rfl
          · rw [if_neg (by decide), c_lov o3 k.to hso, x_b2_some, if_pos (by decide)]
            rfl
          · rw [if_neg (by decide), c_lov o3 k.to hso, x_b2_some, if_neg (by decide), if_pos (x_inN (by omega) (by decide)), i_c (by omega), k.to.2.2.2.1 t ht]
            rfl
          · rw [if_pos (by decide)]
            rfl
      · obtain ⟨F, V', e, m, f, r⟩ := m_isPlan hz h.th
        refine ⟨F, V', ?_, m, frM.th.tr f⟩
        show f_X7_spent F _ _ V = _
        unfold f_X7_spent
        rw [m_th1 h.th.to.1 ht (by omega), x_b2_some, if_neg (by decide), m_inT (by rw [i_n (by omega), i_0]; omega) (by rw [i_n (by omega), show (2 : Int32).toInt = 2 from rfl]; omega), x_b2_some, if_neg (by decide), e F (Nat.le_refl _), x_b2_some]
        cases hb : p_best d w none with
        | none => rfl
        | some q =>
          have hl := best_at o3 hb
          have hso := (p_so_lt (d := d) (l := q.2.2) t d.2.1 hS).1
          rw [hb] at r
          rw [Option.isSome_some, if_neg (by decide), m_sof o3 m.to (fun j hj => by have := hl j hj; omega) r.2.2.1 (by omega), x_b2_some]
          refine (m_lov o3 m.to hso d.2.1 0 300 rfl (by omega)).trans ?_
          rcases (show c = 0 ∨ c = 1 ∨ c = 2 by omega) with rfl | rfl | rfl
          · rw [if_pos (by decide)]
            rfl
          · rw [if_neg (by decide), if_pos (by decide), if_pos (x_inN (by omega) (by decide)), i_c (by omega), m.to.2.2.2.1 t ht]
            rfl
          · rw [if_neg (by decide), if_neg (by decide)]
            rfl
    · refine stp.same hz (-1000000) (fun V h => ?_) (fun V h => ?_)
      · unfold f_X6_spent
        rw [c_th1 h.to.1 ht (by omega), x_b2_some, if_neg (by decide)]
        by_cases h0 : b < 0
        · rw [if_pos h0]
        · rw [if_neg h0, if_pos (by rw [i_lt, i_0] at h0; rw [i_lt, show (2 : Int32).toInt = 2 from rfl]; omega)]
      · show f_X7_spent 0 _ _ V = _
        unfold f_X7_spent
        rw [m_th1 h.th.to.1 ht (by omega), x_b2_some, if_neg (by decide), m_inF (by rw [i_0, show (2 : Int32).toInt = 2 from rfl]; omega), x_b2_some, if_pos rfl]
  · refine stp.same hz (-1000000) (fun V h => ?_) (fun V h => ?_)
    · unfold f_X6_spent
      rw [c_th0 h.to.1 (by omega) ha, x_b2_some, if_pos rfl]
    · show f_X7_spent 0 _ _ V = _
      unfold f_X7_spent
      rw [m_th0 h.th.to.1 (by omega) ha, x_b2_some, if_pos rfl]
/-! without a thing -/
theorem so_out {d : sT} {l : List Nat} {t : Nat} (hd : okT d) (hlen : l.length = p_N d) (h : p_so d l t d.2.1 = 0) : t ∉ l := by
  intro hm
  obtain ⟨i, hi, e⟩ := List.getElem_of_mem hm
  have hat : p_at l (l.length - 1 - i) = t := by
    unfold p_at
    rw [show l.length - 1 - (l.length - 1 - i) = i by omega, List.getD_eq_getElem?_getD, List.getElem?_eq_getElem hi]
    exact e
  obtain ⟨s, b, hj, hs, hb⟩ := slotE hd (show l.length - 1 - i < p_N d by omega)
  rw [hj] at hat
  have hin : p_in d l t s = true := by
    have hC2 := hd.2.2.2.2.1
    unfold p_in
    rcases (show b = 0 ∨ b = 1 by omega) with rfl | rfl
    · rw [Nat.add_zero] at hat
      simp [hat]
    · have : d.2.2.1 = 2 := by omega
      rw [decide_eq_true this, decide_eq_true hat, Bool.and_true, Bool.or_true]
  have := (p_so_lt (d := d) (l := l) t d.2.1 hd.2.2.1).2 s
  rw [h, hin, decide_eq_true hs] at this
  simp at this
section WO
variable {x : List Int32} {d : sT} {w : sW} {hi : List sW} {im : Option sW × Option sW} {se : List Int32} {V : xV}
theorem c_wo (hz : okS (x, d, w, hi, im, se)) (h : Cls (x, d, w, hi, im, se) V) {t : Nat} (ht : t < d.1) : ∃ V', f_X5_changesWithout (nI t) V = some (oI (p_chg d w (some t)), V') ∧ Cls (x, d, w, hi, im, se) V' ∧ frC V V' := by
  obtain ⟨o1, o2, o3, o4, -⟩ := hz.split
  have hT := o3.1
  obtain ⟨V1, e1, k1, f1, hh1⟩ := c_now hz h
  unfold f_X5_changesWithout
  rw [e1, x_b2_some]
  cases hb : p_best d w none with
  | none =>
    rw [if_pos ((oI_9 o3).mpr hb)]
    refine ⟨V1, ?_, k1, f1⟩
    unfold p_chg
    rw [hb, best_br_none hb]
  | some q =>
    have hl := best_at o3 hb
    have hq8 := p_best_8 o3 hb
    have hso := (p_so_lt (d := d) (l := q.2.2) t d.2.1 o3.2.2.1).1
    rw [if_neg (fun e => by rw [(oI_9 o3).mp e] at hb; cases hb), c_so o3 k1.to.2.1 k1.to.2.2.1 (fun j hj => by have := hl j hj; omega) (hh1.2.1 q hb).2 (by omega), x_b2_some]
    by_cases c0 : p_so d q.2.2 t d.2.1 = 0
    · rw [if_pos (by rw [c0]; rfl)]
      refine ⟨V1, ?_, k1, f1⟩
      rw [best_br_out o3 hb (so_out o3 hq8.2.2.2 c0)]
      unfold p_chg
      rw [hb]
      rfl
    · rw [if_neg (fun e => c0 ((b_ne0 _ hso).mp e)), if_pos (x_inN (by omega) (by decide)), i_c (by omega)]
      by_cases c5 : V1 75 t = -5
      · have hbr : ∀ x, some t = some x → x < d.1 := fun x e => by cases e; exact ht
        obtain ⟨V2, e2, f2⟩ := c_can (V := V1) (br := some t) o3 o4 k1.to k1.2.2.1 hbr (more := 0) (by decide)
        have e2 : f_X2_canBeFilled (nI t) 0 V1 = some (bI (!(p_all d w (some t) 0).isEmpty), V2) := e2
        have hold : ∀ (V3 : xV) (v : Int32), (∀ a, a < 76 ∨ 86 ≤ a → V3 a = V1 a) → v = oI (p_chg d w (some t)) → Cls (x, d, w, hi, im, se) (x_up V3 75 t v) ∧ frC V (x_up V3 75 t v) := by
          intro V3 v f3 hv
          have fr : ∀ a, a ≠ 75 → a < 76 ∨ 86 ≤ a → x_up V3 75 t v a = V1 a := fun a h1 h2 => by rw [up_a h1, f3 a h2]
          refine ⟨k1.ca ⟨by rw [fr 73 (by decide) (by decide)]; exact hh1.1, fun q' hq' => by rw [fr 73 (by decide) (by decide), fr 74 (by decide) (by decide)]; exact hh1.2.1 q' hq', fun u hu => ?_⟩ (fun a ha => fr a (by omega) (by omega)), fun a ha => (fr a (by omega) (by omega)).trans (f1 a ha)⟩
          by_cases e : u = t
          · subst e
            exact Or.inr (by rw [up_eq]; exact hv)
          · rw [up_k e, f3 75 (by decide)]
            exact hh1.2.2 u hu
        rw [if_pos c5, e2, x_b2_some]
        cases hb2 : p_best d w (some t) with
        | none =>
          have hv : (-9 : Int32) = oI (p_chg d w (some t)) := ((oI_9 o3).mpr hb2).symm
          rw [p_best_nil.mp hb2, if_pos (by decide), up_eq]
          exact ⟨_, by rw [← hv], hold V2 _ f2 hv⟩
        | some q' =>
          have hL : (p_all d w (some t) 0).isEmpty = false := by
            cases hp : p_all d w (some t) 0 with
            | nil => rw [p_best_nil.mpr hp] at hb2; cases hb2
            | cons _ _ => rfl
          have e3 : oI (p_chg d w none) = nI q.1 := by unfold p_chg; rw [hb]; rfl
          have e4 : oI (p_chg d w (some t)) = nI q'.1 := by unfold p_chg; rw [hb2]; rfl
          obtain ⟨V3, e5, f5, -⟩ := c_few (V := V2) (br := some t) o3 o4 (k1.to.cg (fun a _ _ => f2 a (by omega))) (k1.2.2.1.cg (fun a _ _ => f2 a (by omega))) hbr hb2 (best_br_le hb hb2) (any := true)
          have e5 : f_X2_fewestChanges (nI t) (nI q.1) 1 V2 = some (nI q'.1, V3) := e5
          rw [hL, if_neg (by decide), e3, e5, x_b2_some, up_eq]
          exact ⟨_, by rw [e4], hold V3 _ (fun a ha => (f5 a ha).trans (f2 a ha)) e4.symm⟩
      · rw [if_neg c5]
        refine ⟨V1, ?_, k1, f1⟩
        rcases hh1.2.2 t ht with e | e
        · exact absurd e c5
        · rw [e]
end WO
theorem st_dearth (z : sS) (hz : okS z) (a : Int32) : stp (f_X6_dearth a) (fun F => f_X7_dearth F a) z := by
  obtain ⟨x, d, w, hi, im, se⟩ := z
  obtain ⟨o1, o2, o3, o4, o5, o6, o7, o8, o9⟩ := hz.split
  have hT := o3.1
  rcases i_arg a (n := d.1) (by omega) with ⟨t, ht, rfl⟩ | ha
  · have hbr : ∀ x, some t = some x → x < d.1 := fun x e => by cases e; exact ht
    refine stp.mk hz (match p_chg d w (some t) with | none => -9 | some c' => nI c' - nI (wI (p_chg d w none))) (fun V h => ?_) (fun V h => ?_)
    · obtain ⟨V1, e1, k1, f1⟩ := c_wo hz h ht
      obtain ⟨V2, e2, k2, f2, -⟩ := c_now hz k1
      unfold f_X6_dearth
      rw [c_th1 h.to.1 ht (by omega), x_b2_some, if_neg (by decide), e1, x_b2_some]
      cases hb : p_best d w (some t) with
      | none =>
        rw [if_pos ((oI_9 o3).mpr hb)]
        refine ⟨V1, ?_, k1, f1⟩
        unfold p_chg
        rw [hb]
        rfl
      | some q' =>
        rw [if_neg (fun e => by rw [(oI_9 o3).mp e] at hb; cases hb), e2, x_b2_some]
        refine ⟨V2, ?_, k2, f1.tr f2⟩
        cases hn : p_best d w none with
        | none => rw [best_br_none hn] at hb; cases hb
        | some q =>
          unfold p_chg
          rw [hb, hn]
          rfl
    · obtain ⟨F1, V1, e1, m1, f1⟩ := m_without hz h.th (br := none) (fun x e => by cases e)
      obtain ⟨F2, V2, e2, m2, f2⟩ := m_without hz m1 (br := some t) hbr
      refine ⟨F1 + F2, V2, ?_, m2, (frM.th.tr f1).tr f2⟩
      show f_X7_dearth (F1 + F2) _ V = _
      unfold f_X7_dearth
      rw [m_th1 h.th.to.1 ht (by omega), x_b2_some, if_neg (by decide), show f_X7_without (F1 + F2) (-1) _ = _ from e1 (F1 + F2) (by omega), x_b2_some, show f_X7_without (F1 + F2) (nI t) V1 = _ from e2 (F1 + F2) (by omega), x_b2_some]
      unfold p_chg
      cases hn : p_best d w none with
      | none =>
        rw [best_br_none hn, if_pos (by decide)]
        rfl
      | some q =>
        have h6 := (p_best_8 o3 hn).1
        rw [if_neg (by show ¬ nI q.1 = 9; rw [i_eq, i_n (by omega), show (9 : Int32).toInt = 9 from rfl]; omega)]
        cases hb : p_best d w (some t) with
        | none => rw [if_pos (by decide)]; rfl
        | some q' =>
          have h6' := (p_best_8 o3 hb).1
          rw [if_neg (by show ¬ nI q'.1 = 9; rw [i_eq, i_n (by omega), show (9 : Int32).toInt = 9 from rfl]; omega)]
          rfl
  · refine stp.same hz (-1) (fun V h => ?_) (fun V h => ?_)
    · unfold f_X6_dearth
      rw [c_th0 h.to.1 (by omega) ha, x_b2_some, if_pos rfl]
    · show f_X7_dearth 0 _ V = _
      unfold f_X7_dearth
      rw [m_th0 h.th.to.1 (by omega) ha, x_b2_some, if_pos rfl]
