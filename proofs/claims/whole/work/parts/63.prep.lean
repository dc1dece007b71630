/-! prepare -/
def foN (w : sW) (t : Nat) : Nat := 2 ^ t ||| (if p_on w 2 then w.2.2.1 t else 0)
theorem b_or2 : ∀ t, t < 6 → ∀ b, b < 64 → nI (2 ^ t) ||| nI b = nI (2 ^ t ||| b) ∧ 2 ^ t ||| b < 64 := by decide +kernel
theorem foN_ok {d : sT} {w : sW} (hd : okT d) (hw : okW d w) : q_fo d (p_cf w) (foN w) := by
  have hT := hd.1
  intro u hu
  have hb : (if p_on w 2 then w.2.2.1 u else 0) < 64 := by
    split
    · exact hw.2.2.2.2.2.1 u (by omega)
    · decide
  refine ⟨(b_or2 u (by omega) _ hb).2, fun t ht => ?_⟩
  unfold foN p_cf
  rw [Nat.testBit_or, Nat.testBit_two_pow, hw.2.2.1 t u (by omega) (by omega)]
  congr 1
  · exact decide_eq_decide.mpr ⟨fun h => h.symm, fun h => h.symm⟩
  · cases p_on w 2 <;> simp
theorem p_cf_sy {d : sT} {w : sW} (hd : okT d) (hw : okW d w) (a b : Nat) (ha : a < d.1) (hb : b < d.1) : p_cf w a b = p_cf w b a := by
  have hT := hd.1
  unfold p_cf
  rw [hw.2.2.1 a b (by omega) (by omega)]
  congr 1
  exact decide_eq_decide.mpr ⟨fun h => h.symm, fun h => h.symm⟩
theorem p_cp_le {d : sT} {w : sW} (hd : okT d) {more : Nat} (hm : more ≤ 99) (t : Nat) (ht : t < d.1) : p_cp d w more t ≤ 1000 := by
  have := hd.2.2.2.2.2.1 t ht
  unfold p_cp
  split <;> omega
section PR
variable {d : sT} {w : sW}
theorem c_p39 (hd : okT d) (hw : okW d w) {more : Nat} (hm : more ≤ 99) {l1 l3 : Int32} {k : Int32 → xV → Option xV} : ∀ (m s n : Nat) (V : xV), m + s = d.1 → m < n → cTo V d → cW d V 5 w → (∀ t, t < s → V 79 t = nI (p_cp d w more t) ∧ V 80 t = nI (foN w t) ∧ V 81 t = 0) → ∃ V', f_X2_prepare_L39 l1 (nI more) l3 n k (nI s) V = k (nI d.1) V' ∧ (∀ a, a ≠ 79 → a ≠ 80 → a ≠ 81 → V' a = V a) ∧ ∀ t, t < d.1 → V' 79 t = nI (p_cp d w more t) ∧ V' 80 t = nI (foN w t) ∧ V' 81 t = 0 := by
  have hT := hd.1
  intro m
  induction m with
  | zero =>
    intro s n V hs hn hto hc hv
    obtain ⟨n, rfl⟩ : ∃ q, n = q + 1 := ⟨n - 1, by omega⟩
    obtain rfl : s = d.1 := by omega
    refine ⟨V, ?_, fun _ _ _ _ => rfl, hv⟩
    rw [f_X2_prepare_L39, hto.1, if_pos (by rw [i_le]; exact Int.le_refl _)]
  | succ m ih =>
    intro s n V hs hn hto hc hv
    obtain ⟨n, rfl⟩ : ∃ q, n = q + 1 := ⟨n - 1, by omega⟩
    have hbe := hd.2.2.2.2.2.1 s (by omega)
    have hba := hw.2.2.2.2.2.1 s (by omega)
    have hbn : ∀ V', cW d V' 5 w → f_X4_barredNow_5 (nI s) V' = some (nI (if p_on w 2 then w.2.2.1 s else 0), V') := by
      intro V' hc'
      unfold f_X4_barredNow_5
      rw [show f_X4_isOn_5 (2 : Int32) V' = some (bI (w.2.2.2.testBit 2), V') from c_on hc'.2.2 hw.2.2.2.2.2.2 (by decide), x_b2_some]
      unfold p_on
      cases w.2.2.2.testBit 2 with
      | false => rw [if_pos bI_f]; rfl
      | true =>
        rw [if_neg (by decide), if_pos (x_inN (by omega) (by decide)), i_c (by omega), show V' 9 s = nI (w.2.2.1 s) from (hc'.2.1 s (by omega)).2.2]
        rfl
    have hb : (if p_on w 2 then w.2.2.1 s else 0) < 64 := by
      split
      · exact hba
      · decide
    have step : f_X2_prepare_L39 l1 (nI more) l3 (n + 1) k (nI s) V = f_X2_prepare_L39 l1 (nI more) l3 n k (nI (s + 1)) (x_up (x_up (x_up V 81 s 0) 79 s (nI (p_cp d w more s))) 80 s (nI (foN w s))) := by
      rw [f_X2_prepare_L39, hto.1, if_neg (by rw [i_le, i_n (by omega), i_n (by omega)]; omega), if_pos (x_inN (by omega) (by decide)), i_c (by omega), show f_X4_isOn_5 (0 : Int32) (x_up V 81 s 0) = some (bI (w.2.2.2.testBit 0), x_up V 81 s 0) from c_on (by rw [up_a (by decide)]; exact hc.2.2) hw.2.2.2.2.2.2 (by decide), x_b2_some]
      have ecp : ∀ V', V' = x_up (x_up V 81 s 0) 79 s (nI (p_cp d w more s)) → cW d V' 5 w := fun V' e => hc.cg (fun a _ _ => by rw [e, up_a (by omega), up_a (by omega)])
      have hp : p_cp d w more s = if w.2.2.2.testBit 0 = true then d.2.2.2.1 s + more else 1000 := rfl
      cases hon : w.2.2.2.testBit 0 with
      | false =>
        rw [hon] at hp
        rw [if_pos bI_f, show (1000 : Int32) = nI (p_cp d w more s) by rw [hp]; rfl, hbn _ (ecp _ rfl), x_b2_some, b_one s (by omega), (b_or2 s (by omega) _ hb).1, nI_1]
        rfl
      | true =>
        rw [hon] at hp
        rw [if_neg (by decide), up_a (by decide), hto.2.2.2.1 s (by omega), nI_add, show d.2.2.2.1 s + more = p_cp d w more s by rw [hp]; rfl, hbn _ (ecp _ rfl), x_b2_some, b_one s (by omega), (b_or2 s (by omega) _ hb).1, nI_1]
        rfl
    obtain ⟨V', e, g1, g2⟩ := ih (s + 1) n (x_up (x_up (x_up V 81 s 0) 79 s (nI (p_cp d w more s))) 80 s (nI (foN w s))) (by omega) (by omega) (hto.cg (fun a _ _ => by rw [up_a (by omega), up_a (by omega), up_a (by omega)])) (hc.cg (fun a _ _ => by rw [up_a (by omega), up_a (by omega), up_a (by omega)])) (fun t ht => by
      by_cases et : t = s
      · subst et
        exact ⟨by rw [up_a (by decide), up_eq], by rw [up_eq], by rw [up_a (by decide), up_a (by decide), up_eq]⟩
      · obtain ⟨v1, v2, v3⟩ := hv t (by omega)
        exact ⟨by rw [up_a (by decide), up_k et, up_a (by decide), v1], by rw [up_k et, up_a (by decide), up_a (by decide), v2], by rw [up_a (by decide), up_a (by decide), up_k et, v3]⟩)
    exact ⟨V', step.trans e, fun a h1 h2 h3 => by rw [g1 a h1 h2 h3, up_a h2, up_a h1, up_a h3], g2⟩
def tuOk (d : sT) (tu iv : Nat → Nat) : Prop := (∀ s, s < d.2.1 → tu s < d.2.1 ∧ iv (tu s) = s) ∧ ∀ r, r < d.2.1 → iv r < d.2.1 ∧ tu (iv r) = r
theorem c_p125 (hd : okT d) (hw : okW d w) {more : Nat} (hm : more ≤ 99) {br : Option Nat} (hbr : ∀ x, br = some x → x < d.1) {l2 l3 : Int32} {tu iv : Nat → Nat} (htu : tuOk d tu iv) {k : Int32 → xV → Option xV}
    (hst : ∀ n (V : xV) s, cTo V d → s < d.2.1 → f_X2_prepare_L125 (nI (bkN br)) l2 l3 (n + 1) k (nI s) V = x_b1 (f_X2_openSeason (nI s) (nI (tu s * d.2.2.1)) ((1 : Int32) <<< (nI (bkN br) &&& 31)) V) (fun V23 => f_X2_prepare_L125 (nI (bkN br)) l2 l3 n k (nI (s + 1)) V23)) : ∀ (m s n : Nat) (V : xV), m + s = d.2.1 → m < n → cTo V d → cW d V 5 w → (∀ t, t < d.1 → V 79 t = nI (p_cp d w more t) ∧ V 80 t = nI (foN w t)) → (∀ q, q < s → opS d (p_al d w br) (p_cp d w more) (p_cf w) V q (tu q)) → ∃ V', f_X2_prepare_L125 (nI (bkN br)) l2 l3 n k (nI s) V = k (nI d.2.1) V' ∧ (∀ a, a ≠ 77 → a ≠ 78 → V' a = V a) ∧ ∀ q, q < d.2.1 → opS d (p_al d w br) (p_cp d w more) (p_cf w) V' q (tu q) := by
  have hS := hd.2.2.1
  intro m
  induction m with
  | zero =>
    intro s n V hs hn hto hc hv hq
    obtain ⟨n, rfl⟩ : ∃ q, n = q + 1 := ⟨n - 1, by omega⟩
    obtain rfl : s = d.2.1 := by omega
    refine ⟨V, ?_, fun _ _ _ => rfl, hq⟩
    rw [f_X2_prepare_L125, hto.2.1, if_pos (by rw [i_le]; exact Int.le_refl _)]
  | succ m ih =>
    intro s n V hs hn hto hc hv hq
    obtain ⟨n, rfl⟩ : ∃ q, n = q + 1 := ⟨n - 1, by omega⟩
    obtain ⟨k1, k2⟩ := bk_tb hd hbr
    obtain ⟨V1, e1, f1, f2, o1⟩ := c_open hd hw hto hc (p_cp_le hd hm) (fun t ht => (hv t ht).1) (foN_ok hd hw) (p_cf_sy hd hw) (fun t ht => (hv t ht).2) hbr (show s < d.2.1 by omega) (htu.1 s (by omega)).1
    rw [hst n V s hto (by omega), (bk_bit _ k1).1, e1, x_b1_some]
    obtain ⟨V', e, g1, g2⟩ := ih (s + 1) n V1 (by omega) (by omega) (hto.cg (fun a _ _ => f1 a (by omega) (by omega))) (hc.cg (fun a _ _ => f1 a (by omega) (by omega))) (fun t ht => by rw [f1 79 (by decide) (by decide), f1 80 (by decide) (by decide)]; exact hv t ht) (fun q hq' => by
      by_cases e : q = s
      · subst e; exact o1
      · refine (hq q (by omega)).cg (fun b hb => ?_)
        have ne : tu q ≠ tu s := fun h => e (by rw [← (htu.1 q (by omega)).2, h, (htu.1 s (by omega)).2])
        have := f2 (tu q * d.2.2.1 + b) (by
          rcases Nat.lt_or_gt_of_ne ne with h | h
          · left
            have : (tu q + 1) * d.2.2.1 ≤ tu s * d.2.2.1 := Nat.mul_le_mul_right _ h
            rw [Nat.succ_mul] at this
            omega
          · right
            have : (tu s + 1) * d.2.2.1 ≤ tu q * d.2.2.1 := Nat.mul_le_mul_right _ h
            rw [Nat.succ_mul] at this
            omega)
        exact this)
    exact ⟨V', e, fun a h1 h2 => by rw [g1 a h1 h2, f1 a h1 h2], g2⟩
def dTu (d : sT) (iv : Nat → Nat) : sT := (d.1, d.2.1, d.2.2.1, d.2.2.2.1, fun r => d.2.2.2.2 (iv r))
def alTu (d : sT) (w : sW) (br : Option Nat) (iv : Nat → Nat) (j t : Nat) : Bool := p_al d w br (iv (j / d.2.2.1) * d.2.2.1 + j % d.2.2.1) t
theorem okT_tu (hd : okT d) {tu iv : Nat → Nat} (htu : tuOk d tu iv) : okT (dTu d iv) := ⟨hd.1, hd.2.1, hd.2.2.1, hd.2.2.2.1, hd.2.2.2.2.1, hd.2.2.2.2.2.1, fun s hs => hd.2.2.2.2.2.2 _ (htu.2 s hs).1⟩
set_option maxHeartbeats 1000000 in
theorem c_prep (hd : okT d) (hw : okW d w) {V : xV} (hto : cTo V d) (hc : cW d V 5 w) {more : Nat} (hm : more ≤ 99) {br : Option Nat} (hbr : ∀ x, br = some x → x < d.1) {fr : Bool} {tu iv : Nat → Nat} (htu : tuOk d tu iv)
    (hst : ∀ k n (V : xV) s, cTo V d → s < d.2.1 → f_X2_prepare_L125 (nI (bkN br)) (nI more) (bI fr) (n + 1) k (nI s) V = x_b1 (f_X2_openSeason (nI s) (nI (tu s * d.2.2.1)) ((1 : Int32) <<< (nI (bkN br) &&& 31)) V) (fun V23 => f_X2_prepare_L125 (nI (bkN br)) (nI more) (bI fr) n k (nI (s + 1)) V23)) : ∃ V' op ru, f_X2_prepare (nI (bkN br)) (nI more) (bI fr) V = some V' ∧ (∀ any, qP (dTu d iv) op (p_cp d w more) ru (foN w) fr any (x_up V' 76 12 (bI any))) ∧ q_op (dTu d iv) (alTu d w br iv) (p_cp d w more) (p_cf w) op ∧ q_ru (dTu d iv) op (p_cp d w more) ru ∧ (∀ t, t < d.1 → V' 81 t = 0) ∧ V' 76 14 = 0 ∧ V' 76 16 = 1000 ∧ ∀ a, a < 76 ∨ 86 ≤ a → V' a = V a := by
  have hN := p_N8 hd
  have hT := hd.1
  have hS1 := hd.2.1
  have hS := hd.2.2.1
  have hC1 := hd.2.2.2.1
  have hC2 := hd.2.2.2.2.1
  have hd' := okT_tu hd htu
  have hNd : p_N (dTu d iv) = p_N d := rfl
  generalize hV0 : x_up (x_up (x_up (x_up V 76 14 (0 : Int32)) 76 13 (bI fr)) 76 16 (1000 : Int32)) 76 11 ((V 2 1) * (V 2 2)) = W0
  have w0 : ∀ a, a ≠ 76 → W0 a = V a := fun a h => by rw [← hV0, up_a h, up_a h, up_a h, up_a h]
  obtain ⟨W1, e1, f1, v1⟩ := c_p39 hd hw hm (l1 := nI (bkN br)) (l3 := bI fr) (k := fun l4_14 V15 => f_X2_prepare_L125 (nI (bkN br)) (nI more) (bI fr) 300 (fun l4_32 V33 => x_b1 (f_X2_countRuns V33) (fun V36 => some V36)) (0 : Int32) V15) d.1 0 300 W0 rfl (by omega) (hto.cg (fun a _ _ => w0 a (by omega))) (hc.cg (fun a _ _ => w0 a (by omega))) (fun t ht => by omega)
  have hto1 : cTo W1 d := hto.cg (fun a _ _ => by rw [f1 a (by omega) (by omega) (by omega), w0 a (by omega)])
  have hc1 : cW d W1 5 w := hc.cg (fun a _ _ => by rw [f1 a (by omega) (by omega) (by omega), w0 a (by omega)])
  obtain ⟨W2, e2, f2, o2⟩ := c_p125 hd hw hm hbr htu (hst (fun l4_32 V33 => x_b1 (f_X2_countRuns V33) (fun V36 => some V36))) d.2.1 0 300 W1 rfl (by omega) hto1 hc1 (fun t ht => ⟨(v1 t ht).1, (v1 t ht).2.1⟩) (fun q hq => by omega)
  have p76 : ∀ k, W2 76 k = W0 76 k := fun k => by rw [f2 76 (by decide) (by decide), f1 76 (by decide) (by decide) (by decide)]
  have p2 : W2 2 = V 2 := by rw [f2 2 (by decide) (by decide), f1 2 (by decide) (by decide) (by decide), w0 2 (by decide)]
  -- the slots
  have slot : ∀ j, j < p_N d → ∃ r b, j = r * d.2.2.1 + b ∧ r < d.2.1 ∧ b < d.2.2.1 ∧ j / d.2.2.1 = r ∧ j % d.2.2.1 = b := by
    intro j hj
    exact ⟨j / d.2.2.1, j % d.2.2.1, (Nat.div_add_mod' j d.2.2.1).symm, div_lt_S hd hj, Nat.mod_lt _ (by omega), rfl, rfl⟩
  have os : ∀ r, r < d.2.1 → opS d (p_al d w br) (p_cp d w more) (p_cf w) W2 (iv r) r := by
    intro r hr
    have := o2 (iv r) (htu.2 r hr).1
    rw [(htu.2 r hr).2] at this
    exact this
  have hop : ∀ r b o, b < d.2.2.1 → W2 77 (r * d.2.2.1 + b) = nI o → o < 64 → (W2 77 (r * d.2.2.1 + b)).toNatClampNeg = o := fun r b o hb h ho => by rw [h, i_c (by omega)]
  have hQ : q_op (dTu d iv) (alTu d w br iv) (p_cp d w more) (p_cf w) (fun j => (W2 77 j).toNatClampNeg) := by
    refine ⟨fun j hj => ?_, fun j t hj ht h => ?_, fun hC j t hj ht h1 h2 => ?_, fun hC s a b hs ha hb h1 h2 h3 h4 h5 => ?_⟩
    · obtain ⟨r, b, rfl, hr, hb, -, -⟩ := slot j hj
      obtain ⟨-, o, q1, -⟩ := os r hr
      show (W2 77 _).toNatClampNeg < 64
      rw [hop r b _ hb (q1 b hb).1 (q1 b hb).2.1]
      exact (q1 b hb).2.1
    · obtain ⟨r, b, rfl, hr, hb, d1, d2⟩ := slot j hj
      obtain ⟨-, o, q1, -⟩ := os r hr
      have h : ((W2 77 (r * d.2.2.1 + b)).toNatClampNeg).testBit t = true := h
      rw [hop r b _ hb (q1 b hb).1 (q1 b hb).2.1] at h
      have := (q1 b hb).2.2 t ht h
      unfold alTu
      show p_al d w br (iv ((r * d.2.2.1 + b) / d.2.2.1) * d.2.2.1 + (r * d.2.2.1 + b) % d.2.2.1) t = true ∧ d.2.2.2.2 (iv ((r * d.2.2.1 + b) / d.2.2.1)) ≤ _
      rw [d1, d2]
      exact this
    · have hC : d.2.2.1 = 1 := hC
      obtain ⟨r, b, rfl, hr, hb, d1, d2⟩ := slot j hj
      obtain rfl : b = 0 := by omega
      obtain ⟨-, o, q1, q2, -⟩ := os r hr
      show ((W2 77 (r * d.2.2.1 + 0)).toNatClampNeg).testBit t = true
      rw [hop r 0 _ hb (q1 0 hb).1 (q1 0 hb).2.1]
      have h1 : p_al d w br (iv ((r * d.2.2.1 + 0) / d.2.2.1) * d.2.2.1 + (r * d.2.2.1 + 0) % d.2.2.1) t = true := h1
      have h2 : d.2.2.2.2 (iv ((r * d.2.2.1 + 0) / d.2.2.1)) ≤ _ := h2
      rw [d1, d2] at h1
      rw [d1] at h2
      exact q2 hC t ht h1 h2
    · have hC : d.2.2.1 = 2 := hC
      have hNe : p_N d = d.2.1 * 2 := by unfold p_N; rw [hC]
      have hs : 2 * s + 1 < p_N d := hs
      have hr : s < d.2.1 := by omega
      obtain ⟨-, o, q1, -, q2⟩ := os s hr
      have a0 := q1 0 (by omega)
      have a1 := q1 1 (by omega)
      have x0 := hop s 0 _ (by omega) a0.1 a0.2.1
      have x1 := hop s 1 _ (by omega) a1.1 a1.2.1
      have es : 2 * s = s * d.2.2.1 + 0 := by rw [hC]; omega
      have es1 : 2 * s + 1 = s * d.2.2.1 + 1 := by rw [hC]; omega
      have d0 : 2 * s / d.2.2.1 = s := by rw [hC]; omega
      have m0 : 2 * s % d.2.2.1 = 0 := by rw [hC]; omega
      have d1 : (2 * s + 1) / d.2.2.1 = s := by rw [hC]; omega
      have m1 : (2 * s + 1) % d.2.2.1 = 1 := by rw [hC]; omega
      have h1 : p_al d w br (iv (2 * s / d.2.2.1) * d.2.2.1 + 2 * s % d.2.2.1) a = true := h1
      have h2 : p_al d w br (iv ((2 * s + 1) / d.2.2.1) * d.2.2.1 + (2 * s + 1) % d.2.2.1) b = true := h2
      have h3 : d.2.2.2.2 (iv (2 * s / d.2.2.1)) ≤ _ := h3
      have h4 : d.2.2.2.2 (iv ((2 * s + 1) / d.2.2.1)) ≤ _ := h4
      rw [d0, m0] at h1
      rw [d1, m1] at h2
      rw [d0] at h3
      rw [d1] at h4
      show ((W2 77 (2 * s)).toNatClampNeg).testBit a = true ∧ ((W2 77 (2 * s + 1)).toNatClampNeg).testBit b = true
      rw [es1, es, x0, x1]
      exact q2 hC a b ha hb h1 h2 h3 h4 h5
  -- the runs
  have e76 : W2 76 11 = nI (p_N d) := by rw [p76, ← hV0, up_eq, hto.2.1, hto.2.2.1, pk_mul]; rfl
  have e13 : W2 76 13 = bI fr := by rw [p76, ← hV0, up_k (by decide), up_k (by decide), up_eq]
  have hP0 : ∀ any, (W2 76 12 = 0 ↔ any = false) → qP (dTu d iv) (fun j => (W2 77 j).toNatClampNeg) (p_cp d w more) (fun _ => 0) (foN w) fr any (x_flV W2 84 10 0) := by
    intro any h12
    have ne : ∀ a, a ≠ 84 → x_flV W2 84 10 0 a = W2 a := fun a h => by simp [x_flV, h]
    refine ⟨by rw [ne 2 (by decide), p2]; exact hto.1, by rw [ne 2 (by decide), p2]; exact hto.2.2.1, by rw [ne 76 (by decide)]; exact e76, by rw [ne 76 (by decide)]; exact h12, by rw [ne 76 (by decide)]; exact e13, fun j hj => ?_, fun t ht => ?_, fun j hj => ?_⟩
    · rw [ne 77 (by decide), ne 78 (by decide)]
      obtain ⟨r, b, rfl, hr, hb, d1, d2⟩ := slot j hj
      obtain ⟨l1, o, q1, -⟩ := os r hr
      refine ⟨?_, ?_⟩
      · show _ = nI ((W2 77 (r * d.2.2.1 + b)).toNatClampNeg)
        rw [hop r b _ hb (q1 b hb).1 (q1 b hb).2.1]
        exact (q1 b hb).1
      · rw [l1 b hb]
        show nI _ = nI (d.2.2.2.2 (iv ((r * d.2.2.1 + b) / d.2.2.1)))
        rw [d1]
    · rw [ne 79 (by decide), ne 80 (by decide), f2 79 (by decide) (by decide), f2 80 (by decide) (by decide)]
      exact ⟨(v1 t ht).1, (v1 t ht).2.1⟩
    · have hj : j < p_N d + d.2.2.1 := hj
      have : j < 10 := by omega
      simp [x_flV, this]
      rfl
  obtain ⟨W3, ru, e3, g2, g3, g4⟩ := c_run15 hd' hQ.1 (p_cp_le hd hm) (p_N d) 300 (x_flV W2 84 10 0) (fun _ => 0) (Nat.le_refl _) (by omega) (hP0 (decide (W2 76 12 ≠ 0)) (by simp)) (fun _ => by omega) (fun _ _ => rfl) (fun i h1 h2 => by have h2 : i < p_N d := h2; omega)
  have ne : ∀ a, a ≠ 84 → W3 a = W2 a := fun a h => by rw [g4 a h]; simp [x_flV, h]
  have ecr : f_X2_countRuns W2 = some W3 := by
    unfold f_X2_countRuns x_filA
    rw [x_b1_some, show x_flV W2 84 10 0 76 = W2 76 from rfl, e76]
    exact e3
  refine ⟨W3, _, ru, ?_, fun any => ?_, hQ, g3, fun t ht => ?_, ?_, ?_, fun a ha => ?_⟩
  · unfold f_X2_prepare
    rw [if_pos (by cases fr <;> decide), hV0]
    refine e1.trans (e2.trans ?_)
    show x_b1 (f_X2_countRuns W2) (fun V36 => some V36) = _
    rw [ecr]
    rfl
  · obtain ⟨h1, h2, h3, h4, h5, h6, h7, h8⟩ := g2
    exact ⟨by rw [up_a (by decide)]; exact h1, by rw [up_a (by decide)]; exact h2, by rw [up_k (by decide)]; exact h3, by rw [up_eq]; exact bI_0 any, by rw [up_k (by decide)]; exact h5, fun j hj => by rw [up_a (by decide), up_a (by decide)]; exact h6 j hj, fun t ht => by rw [up_a (by decide), up_a (by decide)]; exact h7 t ht, fun j hj => by rw [up_a (by decide)]; exact h8 j hj⟩
  · rw [ne 81 (by decide), f2 81 (by decide) (by decide)]
    exact (v1 t ht).2.2
  · rw [ne 76 (by decide), p76, ← hV0, up_k (by decide), up_k (by decide), up_k (by decide), up_eq]
  · rw [ne 76 (by decide), p76, ← hV0, up_k (by decide), up_eq]
  · rw [ne a (by omega), f2 a (by omega) (by omega), f1 a (by omega) (by omega) (by omega), w0 a (by omega)]
end PR
