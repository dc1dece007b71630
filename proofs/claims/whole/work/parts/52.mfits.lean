/-! what the reference asks at a place -/
def brI (o : Option Nat) : Int32 := match o with
  | none => -1
  | some t => nI t
def p_side (d : sT) (w : sW) (l : List Nat) (t : Nat) : Bool := match p_sd d l with
  | none => true
  | some u => !p_cf w t u
theorem p_pl_eq (d : sT) (w : sW) (br : Option Nat) (more : Nat) (l : List Nat) (t : Nat) : p_pl d w br more l t = (p_al d w br l.length t && p_side d w l t && decide (p_sm d l t + p_lt d l.length ≤ p_cp d w more t)) := rfl
def p_dn (d : sT) (w : sW) (j t : Nat) : Bool := match w.1 (j / d.2.2.1) (j % d.2.2.1) with
  | none => true
  | some x => decide (x = t)
def p_lo (d : sT) (w : sW) (j t : Nat) : Bool := match w.2.1 t with
  | none => true
  | some p => !(decide (p.1 ≤ j / d.2.2.1) && decide (j / d.2.2.1 ≤ p.2))
theorem p_al_eq (d : sT) (w : sW) (br : Option Nat) (j t : Nat) : p_al d w br j t = (decide (br ≠ some t) && (!p_on w 3 || p_dn d w j t) && (!p_on w 1 || p_lo d w j t)) := rfl
def aL (a : Option (Nat × Nat × List Nat)) : Nat := match a with
  | none => 99
  | some q => q.1
section MF
variable {d : sT} {w : sW} {V0 : xV}
theorem m_J117 (hd : okT d) (hw : okW d w) (hm : mW d (V0 103) 0 w) {V : xV} {l : List Nat} (hB : mBs d V0 V l) (hl : l.length < p_N d) {t : Nat} (ht : t < d.1) {l2 l4 l6 : Int32} : f_X7_mayStand_J117 (nI l.length) l2 (nI t) l4 (nI (l.length % d.2.2.1)) l6 V = some (bI (p_side d w l t), V) := by
  have hN : p_N d ≤ 8 := Nat.le_trans (Nat.mul_le_mul hd.2.2.1 hd.2.2.2.2.1) (by decide)
  have hT := hd.1
  have hC1 := hd.2.2.2.1
  have hC2 := hd.2.2.2.2.1
  have e103 : V 103 = V0 103 := hB.1.1 103 (by decide) (by decide) (by decide) (by decide) (by decide)
  have hmod : l.length % d.2.2.1 < 2 := by have := Nat.mod_lt l.length (show d.2.2.1 > 0 by omega); omega
  unfold f_X7_mayStand_J117 p_side p_sd
  by_cases h0 : l.length % d.2.2.1 = 0
  · rw [h0, if_pos (by rfl), if_pos rfl]
    rfl
  · rw [if_neg (by rw [i_eq, i_n (by omega), i_0]; omega), if_neg h0]
    cases l with
    | nil => simp at h0
    | cons u l' =>
      rw [List.length_cons] at hl h0 hmod ⊢
      have hu : u < d.1 := hB.2.2.2.2 u List.mem_cons_self
      have hpu : V 108 l'.length = nI u := by rw [hB.2.1 l'.length (by rw [List.length_cons]; omega), p_at_top]
      rw [show nI (l'.length + 1) - 1 = nI l'.length from nI_pred _, if_pos (x_inN (by omega) (by decide)), i_c (by omega), hpu]
      have e0 : (u :: l')[0]? = some u := rfl
      rw [e0]
      have hon : V 103 26 = nI w.2.2.2 := by have := hm.2.2; rw [Nat.zero_add] at this; rw [e103]; exact this
      have hbt : V 103 (20 + t) = nI (w.2.2.1 t) := by have := (hm.2.1 t (by omega)).2.2; rw [Nat.zero_add] at this; rw [e103]; exact this
      show _ = some (bI (!p_cf w t u), V)
      unfold p_cf
      by_cases htu : t = u
      · rw [if_pos (by rw [htu])]
        simp [htu, bI]
        rfl
      · rw [if_neg (fun q => htu (i_inj (by omega) (by omega) q)), show (2 : Int32) = nI 2 from rfl, m_on hon hw.2.2.2.2.2.2 (by decide), x_b2_some]
        simp only [htu, decide_false, Bool.false_or]
        unfold p_on
        cases h2 : w.2.2.2.testBit 2
        · rw [if_pos bI_f]
          rfl
        · rw [if_neg (by decide), show (20 : Int32) + nI t = nI (20 + t) from nI_add 20 t, if_pos (x_inN (by omega) (by decide)), i_c (by omega), hbt, hpu, m_has (hw.2.2.2.2.2.1 t (by omega)) (by omega), x_b2_some]
          cases (w.2.2.1 t).testBit u
          · rw [if_pos bI_f]; rfl
          · rw [if_neg (by decide)]; rfl
theorem m_J67 (hd : okT d) (hw : okW d w) (hm : mW d (V0 103) 0 w) {V : xV} {l : List Nat} (hB : mBs d V0 V l) (hl : l.length < p_N d) {t : Nat} (ht : t < d.1) {l2 l6 : Int32} : f_X7_mayStand_J67 (nI l.length) l2 (nI t) (nI (l.length / d.2.2.1)) (nI (l.length % d.2.2.1)) l6 V = some (bI ((!p_on w 1 || p_lo d w l.length t) && p_side d w l t), V) := by
  have hN : p_N d ≤ 8 := Nat.le_trans (Nat.mul_le_mul hd.2.2.1 hd.2.2.2.2.1) (by decide)
  have hT := hd.1
  have hS4 := hd.2.2.1
  have hdiv := div_lt_S hd hl
  have e103 : V 103 = V0 103 := hB.1.1 103 (by decide) (by decide) (by decide) (by decide) (by decide)
  have hon : V 103 26 = nI w.2.2.2 := by have := hm.2.2; rw [Nat.zero_add] at this; rw [e103]; exact this
  have h8 : V 103 (8 + t) = lF (w.2.1 t) := by have := (hm.2.1 t (by omega)).1; rw [Nat.zero_add] at this; rw [e103]; exact this
  have h14 : V 103 (14 + t) = lT (w.2.1 t) := by have := (hm.2.1 t (by omega)).2.1; rw [Nat.zero_add] at this; rw [e103]; exact this
  unfold f_X7_mayStand_J67 p_on
  rw [show (1 : Int32) = nI 1 from rfl, m_on hon hw.2.2.2.2.2.2 (by decide), x_b2_some]
  cases h1 : w.2.2.2.testBit 1
  · rw [if_pos bI_f, m_J117 hd hw hm hB hl ht]
    simp
  · rw [if_neg (by decide), show (8 : Int32) + nI t = nI (8 + t) from nI_add 8 t, show (14 : Int32) + nI t = nI (14 + t) from nI_add 14 t, if_pos (x_inN (by omega) (by decide)), i_c (by omega), h8]
    unfold p_lo
    cases hq : w.2.1 t with
    | none =>
      rw [if_pos (by rfl), m_J117 hd hw hm hB hl ht]
      simp
    | some p =>
      have hp := hw.2.1 t p (by omega) hq
      rw [if_neg (by simp only [lF, i_eq, i_n (show p.1 < 2000 by omega), show (-9 : Int32).toInt = -9 from rfl]; omega), if_pos (x_inN (by omega) (by decide)), i_c (by omega), h14, hq]
      show x_b2 (f_X7_in (nI (l.length / d.2.2.1)) (nI p.1) (nI p.2) V) _ = _
      by_cases hc : p.1 ≤ l.length / d.2.2.1 ∧ l.length / d.2.2.1 ≤ p.2
      · rw [m_inT (by rw [i_n (by omega), i_n (by omega)]; omega) (by rw [i_n (by omega), i_n (by omega)]; omega), x_b2_some, if_neg (by decide)]
        simp [hc.1, hc.2]
        rfl
      · rw [m_inF (by rw [i_n (by omega), i_n (by omega), i_n (by omega)]; omega), x_b2_some, if_pos rfl, m_J117 hd hw hm hB hl ht]
        have : (decide (p.1 ≤ l.length / d.2.2.1) && decide (l.length / d.2.2.1 ≤ p.2)) = false := by
          rw [Bool.and_eq_false_iff, decide_eq_false_iff_not, decide_eq_false_iff_not]
          omega
        simp [this]
theorem m_may (hd : okT d) (hw : okW d w) (h0 : mTo V0 d) (hm : mW d (V0 103) 0 w) {V : xV} {l : List Nat} (hB : mBs d V0 V l) (hl : l.length < p_N d) {t : Nat} (ht : t < d.1) (hp : V 108 l.length = nI t) {br : Option Nat} (hbr : ∀ x, br = some x → x < d.1) : f_X7_mayStand (nI l.length) (brI br) V = some (bI (p_al d w br l.length t && p_side d w l t), V) := by
  have hN : p_N d ≤ 8 := Nat.le_trans (Nat.mul_le_mul hd.2.2.1 hd.2.2.2.2.1) (by decide)
  have hT := hd.1
  have hS4 := hd.2.2.1
  have hC1 := hd.2.2.2.1
  have hC2 := hd.2.2.2.2.1
  have hdiv := div_lt_S hd hl
  have hmod := Nat.mod_lt l.length (show d.2.2.1 > 0 by omega)
  have e103 : V 103 = V0 103 := hB.1.1 103 (by decide) (by decide) (by decide) (by decide) (by decide)
  have h10 : V 96 10 = nI d.2.2.1 := (hB.1.2 10 (by decide) (by decide)).trans h0.2.2.1
  have hon : V 103 26 = nI w.2.2.2 := by have := hm.2.2; rw [Nat.zero_add] at this; rw [e103]; exact this
  have hdn : V 103 (2 * (l.length / d.2.2.1) + l.length % d.2.2.1) = oI (w.1 (l.length / d.2.2.1) (l.length % d.2.2.1)) := by have := hm.1 _ _ hdiv hmod; rw [Nat.zero_add] at this; rw [e103]; exact this
  have hJ := m_J67 hd hw hm hB hl ht (l2 := brI br) (l6 := oI (w.1 (l.length / d.2.2.1) (l.length % d.2.2.1)))
  unfold f_X7_mayStand
  rw [if_pos (x_inN (by omega) (by decide)), i_c (by omega), h10, if_neg (by rw [i_eq, i_n (by omega), i_0]; omega), if_neg (by rw [i_eq, i_n (by omega), i_0]; omega), pk_rem (by omega) (by omega) (by omega), pk_div (by omega) (by omega) (by omega), m_slot, if_pos (x_inN (by omega) (by decide)), i_c (by omega), hp, hdn]
  rw [p_al_eq]
  by_cases hb : br = some t
  · rw [hb, if_pos (by rfl)]
    simp
    rfl
  · have hne : ¬ nI t = brI br := by
      cases hq : br with
      | none => rw [show brI none = (-1 : Int32) from rfl, i_eq, i_n (by omega), show (-1 : Int32).toInt = -1 from rfl]; omega
      | some x =>
        intro z
        have := i_inj (by omega) (by have := hbr x hq; omega) z
        exact hb (by rw [hq, this])
    rw [if_neg hne, show (3 : Int32) = nI 3 from rfl, m_on hon hw.2.2.2.2.2.2 (by decide), x_b2_some]
    simp only [ne_eq, hb, not_false_eq_true, decide_true, Bool.true_and]
    cases h3 : w.2.2.2.testBit 3
    · rw [if_pos bI_f, hJ, show p_on w 3 = false from h3]
      simp
    · rw [if_neg (by decide), show p_on w 3 = true from h3]
      unfold p_dn
      cases hq : w.1 (l.length / d.2.2.1) (l.length % d.2.2.1) with
      | none =>
        rw [hq] at hJ
        rw [if_pos (by rfl), hJ]
        simp
      | some x =>
        have hx := hw.1 _ _ x hdiv hmod hq
        rw [hq] at hJ
        rw [if_neg (by simp only [oI, i_eq, i_n (show x < 2000 by omega), show (-9 : Int32).toInt = -9 from rfl]; omega)]
        by_cases hxt : x = t
        · rw [if_pos (by rw [hxt]; rfl), hJ]
          simp [hxt]
        · rw [if_neg (show ¬ oI (some x) = nI t from fun z => hxt (i_inj (by omega) (by omega) z))]
          simp [hxt]
          rfl
/-- the question, with light and changes -/
def ft0 (d : sT) (w : sW) (br : Option Nat) (a : Option (Nat × Nat × List Nat)) (l : List Nat) (t : Nat) : Bool := p_pl d w br 0 l t && decide (p_ch d l + p_c1 d l t ≤ aL a)
def Ra0 (d : sT) (V : xV) (a : Option (Nat × Nat × List Nat)) : Prop := match a with
  | none => V 96 32 = 99 ∧ V 96 33 = 1000
  | some q => V 96 32 = nI q.1 ∧ V 96 33 = nI q.2.1 ∧ (∀ k, k < p_N d → V 111 k = nI (p_at q.2.2 k)) ∧ q.1 ≤ 8 ∧ q.2.1 ≤ 240
theorem m_fits0 (hd : okT d) (hw : okW d w) (h0 : mTo V0 d) (hm : mW d (V0 103) 0 w) {br : Option Nat} (hbr : ∀ x, br = some x → x < d.1) (V : xV) (l : List Nat) (t : Nat) (a : Option (Nat × Nat × List Nat)) (hB : mBs d V0 V l) (hl : l.length < p_N d) (ht : t < d.1) (hp : V 108 l.length = nI t) (hR : Ra0 d V a) : f_X7_fits (nI l.length) (brI br) 0 V = some (bI (ft0 d w br a l t), V) := by
  have hN : p_N d ≤ 8 := Nat.le_trans (Nat.mul_le_mul hd.2.2.1 hd.2.2.2.2.1) (by decide)
  have hT := hd.1
  have hS4 := hd.2.2.1
  have hC1 := hd.2.2.2.1
  have hC2 := hd.2.2.2.2.1
  have hdiv := div_lt_S hd hl
  have e103 : V 103 = V0 103 := hB.1.1 103 (by decide) (by decide) (by decide) (by decide) (by decide)
  have h10 : V 96 10 = nI d.2.2.1 := (hB.1.2 10 (by decide) (by decide)).trans h0.2.2.1
  have hon : V 103 26 = nI w.2.2.2 := by have := hm.2.2; rw [Nat.zero_add] at this; rw [e103]; exact this
  have hsm := p_sm_le hd t l (by omega)
  have hlt := p_lt_le hd hl
  have hbe := hd.2.2.2.2.2.1 t ht
  have e98 : V 98 (l.length / d.2.2.1) = nI (p_lt d l.length) := by rw [hB.1.1 98 (by decide) (by decide) (by decide) (by decide) (by decide)]; exact h0.2.2.2.2 _ hdiv
  have e99 : V 99 t = nI (d.2.2.2.1 t) := by rw [hB.1.1 99 (by decide) (by decide) (by decide) (by decide) (by decide)]; exact h0.2.2.2.1 t ht
  have e109 : V 109 l.length = nI (p_ch d l) := by have := hB.2.2.1 l.length (Nat.le_refl _); rw [Nat.sub_self, List.drop_zero] at this; exact this
  have hch := p_ch_le d l
  have hc1 : p_c1 d l t ≤ 1 := by unfold p_c1; split <;> omega
  have hca := m_changeAt hd h0.2.2.1 hB.1 (l := l) (t := t) (by omega) (by omega) hB.2.2.2.2 hB.2.1 hp
  have h32 : V 96 32 = nI (aL a) := by
    cases a with
    | none => exact hR.1
    | some q => exact hR.1
  have hle : aL a ≤ 99 := by
    cases a with
    | none => exact Nat.le_refl _
    | some q => have := hR.2.2.2.1; show q.1 ≤ 99; omega
  unfold f_X7_fits ft0
  rw [p_pl_eq]
  rw [if_pos (x_inN (by omega) (by decide)), m_may hd hw h0 hm hB hl ht hp hbr, x_b2_some, i_c (by omega), hp]
  cases hma : (p_al d w br l.length t && p_side d w l t)
  · rw [if_pos bI_f]
    simp only [Bool.false_and]
    rfl
  · generalize aL a = L at h32 hle ⊢
    rw [if_neg (by decide), if_pos (x_inN (by omega) (by decide)), h10, if_neg (by rw [i_eq, i_n (by omega), i_0]; omega), pk_div (by omega) (by omega) (by omega), if_pos (x_inN (by omega) (by decide)), if_pos rfl, i_c (by omega), i_c (by omega), hB.2.2.2.1 t (by omega), e98, e99, nI_add, show (0 : Int32) = nI 0 from rfl, m_on hon hw.2.2.2.2.2.2 (by decide), x_b2_some]
    simp only [Bool.true_and]
    have fin : x_b2 (f_X7_changeAt (nI l.length) V) (fun x22 V21 => if (V21 96 32) < ((V 109 l.length) + x22) then (some (nI 0, V21)) else (some ((1 : Int32), V21))) = some (bI (decide (p_ch d l + p_c1 d l t ≤ L)), V) := by
      rw [hca, x_b2_some, e109, h32, nI_add]
      by_cases hc : p_ch d l + p_c1 d l t ≤ L
      · rw [if_neg (by rw [i_lt, i_n (by omega), i_n (by omega)]; omega), decide_eq_true hc]
        rfl
      · rw [if_pos (by rw [i_lt, i_n (by omega), i_n (by omega)]; omega), decide_eq_false hc]
        rfl
    unfold p_cp p_on
    cases h1 : w.2.2.2.testBit 0
    · rw [if_pos (show bI false = nI 0 from rfl), if_pos (x_inN (by omega) (by decide)), fin]
      have : decide (p_sm d l t + p_lt d l.length ≤ 1000) = true := decide_eq_true (by omega)
      simp only [Bool.false_eq_true, if_false, this, Bool.true_and]
    · rw [if_neg (by decide)]
      simp only [if_true, Nat.add_zero]
      by_cases hc : p_sm d l t + p_lt d l.length ≤ d.2.2.2.1 t
      · rw [if_neg (by rw [i_lt, i_n (by omega), i_s (by omega) (by omega)]; omega), if_pos (x_inN (by omega) (by decide)), fin, decide_eq_true hc]
        simp only [Bool.true_and]
      · rw [if_pos (by rw [i_lt, i_n (by omega), i_s (by omega) (by omega)]; omega), decide_eq_false hc]
        simp only [Bool.false_and]
        rfl
end MF
