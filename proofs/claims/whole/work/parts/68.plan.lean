section PL
variable {x : List Int32} {d : sT} {w : sW} {hi : List sW} {im : Option sW × Option sW} {se : List Int32} {V : xV}
theorem c_has (hz : okS (x, d, w, hi, im, se)) (h : Cls (x, d, w, hi, im, se) V) : ∃ V', f_X5_hasPlan V = some (bI (p_best d w none).isSome, V') ∧ Cls (x, d, w, hi, im, se) V' ∧ frC V V' ∧ cHold V' d w := by
  obtain ⟨V', e, c, f, hh⟩ := c_now hz h
  refine ⟨V', ?_, c, f, hh⟩
  unfold f_X5_hasPlan
  rw [e, x_b2_some]
  cases hb : p_best d w none with
  | none => rw [if_pos ((oI_9 hz.split.2.2.1).mpr hb)]; rfl
  | some q => rw [if_neg (fun e => by rw [(oI_9 hz.split.2.2.1).mp e] at hb; cases hb)]; rfl
theorem Cls.to (h : Cls (x, d, w, hi, im, se) V) : cTo V d := h.2.1
theorem Mdl.to (h : Mdl (x, d, w, hi, im, se) V) : mTo V d := h.2.1
/-- one answer, nothing told changes -/
theorem stp.mk {f : xV → Option (Int32 × xV)} {g : Nat → xV → Option (Int32 × xV)} {z : sS} (hz : okS z) (r : Int32) (hf : ∀ V, Cls z V → ∃ V1, f V = some (r, V1) ∧ Cls z V1 ∧ frC V V1) (hg : ∀ V, Mdl z V → ∃ F V2, g F V = some (r, V2) ∧ Mdl z V2 ∧ frM V V2) : stp f g z := ⟨r, z, hz, hf, hg⟩
end PL
theorem st_plan (z : sS) (hz : okS z) (a b : Int32) : stp (f_X6_plan a b) (fun F => f_X7_plan F a b) z := by
  obtain ⟨x, d, w, hi, im, se⟩ := z
  obtain ⟨o1, o2, o3, o4, o5, o6, o7, o8, o9⟩ := hz.split
  have hS := o3.2.2.1
  have hC2 := o3.2.2.2.2.1
  rcases i_arg a (n := d.2.1) (by omega) with ⟨s, hs, rfl⟩ | ha
  · rcases i_arg b (n := d.2.2.1) (by omega) with ⟨c, hc, rfl⟩ | hb
    · have h8 := slot8 o3 hs hc
      have hN := slotN o3 hs hc
      refine stp.mk hz (match p_best d w none with | none => -9 | some q => nI (p_at q.2.2 (s * d.2.2.1 + c))) (fun V h => ?_) (fun V h => ?_)
      · obtain ⟨V', e, k, f, hh⟩ := c_has hz h
        refine ⟨V', ?_, k, f⟩
        unfold f_X6_plan
        rw [c_se1 h.to.2.1 hs (by omega), x_b2_some, if_neg (by decide), c_ca1 h.to.2.2.1 hc (by omega), x_b2_some, if_neg (by decide), e, x_b2_some]
        cases hb : p_best d w none with
        | none => rfl
        | some q =>
          rw [Option.isSome_some, if_neg (by decide)]
          unfold f_X3_slotOf_2 f_X5_thingIn
          rw [x_b2_some, k.to.2.2.1, pk_mul, nI_add, if_pos (x_inN h8 (by decide)), i_c (by omega), ((hh.2.1 q hb).2 _ hN), x_b2_some]
      · obtain ⟨F, V', e, m, f, r⟩ := m_isPlan hz h.th
        refine ⟨F, V', ?_, m, frM.th.tr f⟩
        show f_X7_plan F _ _ V = _
        unfold f_X7_plan
        rw [m_se1 h.th.to.2.1 hs (by omega), x_b2_some, if_neg (by decide), m_ca1 h.th.to.2.2.1 hc (by omega), x_b2_some, if_neg (by decide), e F (Nat.le_refl _), x_b2_some]
        cases hb : p_best d w none with
        | none => rfl
        | some q =>
          rw [hb] at r
          rw [Option.isSome_some, if_neg (by decide), m.to.2.2.1, pk_mul, nI_add, Nat.mul_comm, if_pos (x_inN h8 (by decide)), i_c (by omega), r.2.2.1 _ hN]
    · refine stp.same hz (-1) (fun V h => ?_) (fun V h => ?_)
      · unfold f_X6_plan
        rw [c_se1 h.to.2.1 hs (by omega), x_b2_some, if_neg (by decide), c_ca0 h.to.2.2.1 (by omega) hb, x_b2_some, if_pos rfl]
      · show f_X7_plan 0 _ _ V = _
        unfold f_X7_plan
        rw [m_se1 h.th.to.2.1 hs (by omega), x_b2_some, if_neg (by decide), m_ca0 h.th.to.2.2.1 (by omega) hb, x_b2_some, if_pos rfl]
  · refine stp.same hz (-1) (fun V h => ?_) (fun V h => ?_)
    · unfold f_X6_plan
      rw [c_se0 h.to.2.1 (by omega) ha, x_b2_some, if_pos rfl]
    · show f_X7_plan 0 _ _ V = _
      unfold f_X7_plan
      rw [m_se0 h.th.to.2.1 (by omega) ha, x_b2_some, if_pos rfl]
theorem st_cost (z : sS) (hz : okS z) (a : Int32) : stp (f_X6_cost a) (fun F => f_X7_cost F a) z := by
  obtain ⟨x, d, w, hi, im, se⟩ := z
  obtain ⟨o1, o2, o3, o4, o5, o6, o7, o8, o9⟩ := hz.split
  rcases i_arg a (n := 2) (by decide) with ⟨s, hs, rfl⟩ | ha
  · refine stp.mk hz (match p_best d w none with | none => -9 | some q => if s = 0 then nI q.1 else nI q.2.1) (fun V h => ?_) (fun V h => ?_)
    · obtain ⟨V', e, k, f, hh⟩ := c_has hz h
      obtain ⟨V'', e2, k2, f2, hh2⟩ := c_now hz k
      unfold f_X6_cost
      rw [if_neg (by rw [i_lt, i_n (by omega), i_0]; omega), if_pos (by rw [i_le, i_n (by omega), show (1 : Int32).toInt = 1 from rfl]; omega), e, x_b2_some]
      cases hb : p_best d w none with
      | none => exact ⟨V', rfl, k, f⟩
      | some q =>
        rw [Option.isSome_some, if_neg (by decide)]
        rcases (show s = 0 ∨ s = 1 by omega) with rfl | rfl
        · refine ⟨V'', ?_, k2, f.tr f2⟩
          rw [if_pos (by decide), e2, x_b2_some]
          unfold p_chg
          rw [hb]
          rfl
        · refine ⟨V', ?_, k, f⟩
          rw [if_neg (by decide)]
          unfold f_X5_mostLight
          rw [x_b2_some, (hh.2.1 q hb).1]
          rfl
    · obtain ⟨F, V', e, m, f, r⟩ := m_isPlan hz h.th
      refine ⟨F, V', ?_, m, frM.th.tr f⟩
      show f_X7_cost F _ V = _
      unfold f_X7_cost
      rw [m_inT (by rw [i_n (by omega), i_0]; omega) (by rw [i_n (by omega), show (1 : Int32).toInt = 1 from rfl]; omega), x_b2_some, if_neg (by decide), e F (Nat.le_refl _), x_b2_some]
      cases hb : p_best d w none with
      | none => rfl
      | some q =>
        rw [hb] at r
        rw [Option.isSome_some, if_neg (by decide)]
        rcases (show s = 0 ∨ s = 1 by omega) with rfl | rfl
        · rw [if_pos (by decide), r.1]; rfl
        · rw [if_neg (by decide), r.2.1]; rfl
  · refine stp.same hz (-1) (fun V h => ?_) (fun V h => ?_)
    · unfold f_X6_cost
      by_cases h0 : a < 0
      · rw [if_pos h0]
      · rw [if_neg h0, if_neg (by rw [i_lt, i_0] at h0; rw [i_le, show (1 : Int32).toInt = 1 from rfl]; omega)]
    · show f_X7_cost 0 _ V = _
      unfold f_X7_cost
      rw [m_inF (by rw [i_0, show (1 : Int32).toInt = 1 from rfl]; omega), x_b2_some, if_pos rfl]
/-! what stands in a season -/
theorem b_or64 {a b : Nat} (ha : a < 64) (hb : b < 64) : a ||| b < 64 := Nat.or_lt_two_pow (n := 6) ha hb
theorem pw64 : ∀ u, u < 6 → 2 ^ u < 64 := by decide
def p_sh (d : sT) (l : List Nat) (s : Nat) : Nat → Nat
  | 0 => 0
  | b + 1 => p_sh d l s b ||| 2 ^ p_at l (s * d.2.2.1 + b)
def p_in (d : sT) (l : List Nat) (t s : Nat) : Bool := decide (p_at l (s * d.2.2.1) = t) || (decide (d.2.2.1 = 2) && decide (p_at l (s * d.2.2.1 + 1) = t))
def p_so (d : sT) (l : List Nat) (t : Nat) : Nat → Nat
  | 0 => 0
  | s + 1 => p_so d l t s ||| (if p_in d l t s then 2 ^ s else 0)
section TI
variable {d : sT} {l : List Nat} {V : xV}
theorem p_sh_lt (hl : ∀ j, j < p_N d → p_at l j < 6) {s : Nat} (hd : okT d) (hs : s < d.2.1) : ∀ b, b ≤ d.2.2.1 → p_sh d l s b < 64 := by
  intro b
  induction b with
  | zero => intro _; exact (by decide : 0 < 64)
  | succ b ih => intro hb; exact b_or64 (ih (by omega)) (pw64 _ (hl _ (slotN hd hs (by omega))))
theorem p_sh_tb (hd : okT d) {s t : Nat} : (p_sh d l s d.2.2.1).testBit t = p_in d l t s := by
  have hC1 := hd.2.2.2.1
  have hC2 := hd.2.2.2.2.1
  unfold p_in
  rcases (show d.2.2.1 = 1 ∨ d.2.2.1 = 2 by omega) with hC | hC
  · rw [hC]
    simp only [p_sh, hC, Nat.zero_or, Nat.testBit_two_pow, Nat.add_zero]
    simp
  · rw [hC]
    simp only [p_sh, hC, Nat.zero_or, Nat.testBit_or, Nat.testBit_two_pow, Nat.add_zero]
    simp
theorem p_so_lt (t : Nat) : ∀ s, s ≤ 4 → p_so d l t s < 64 ∧ ∀ k, (p_so d l t s).testBit k = (decide (k < s) && p_in d l t k) := by
  intro s
  induction s with
  | zero => intro _; exact ⟨(by decide : 0 < 64), fun k => by simp [p_so]⟩
  | succ s ih =>
    intro hs
    obtain ⟨h1, h2⟩ := ih (by omega)
    refine ⟨?_, fun k => ?_⟩
    · simp only [p_so]
      split
      · exact b_or64 h1 (pw64 s (by omega))
      · exact b_or64 h1 (by decide)
    · simp only [p_so]
      rw [Nat.testBit_or, h2]
      by_cases e : k = s
      · subst e
        cases hp : p_in d l t k <;> simp [Nat.testBit_two_pow]
      · have : decide (k < s + 1) = decide (k < s) := decide_eq_decide.mpr (by omega)
        rw [this]
        cases hp : p_in d l t s <;> simp [Nat.testBit_two_pow, Ne.symm e]
theorem b_or' : ∀ a, a < 64 → ∀ b, b < 64 → nI a ||| nI b = nI (a ||| b) := by decide +kernel
theorem c_tin (hd : okT d) (h2 : V 2 2 = nI d.2.2.1) (hl : ∀ j, j < p_N d → p_at l j < 6) (h74 : ∀ j, j < p_N d → V 74 j = nI (p_at l j)) {s : Nat} (hs : s < d.2.1) : f_X5_thingsIn (nI s) V = some (nI (p_sh d l s d.2.2.1), V) := by
  have hC2 := hd.2.2.2.2.1
  have key : ∀ (m b n : Nat), m + b = d.2.2.1 → m < n → f_X5_thingsIn_L4 (nI s) n (fun l2_6 l3_7 V8 => some (l2_6, V8)) (nI (p_sh d l s b)) (nI b) V = some (nI (p_sh d l s d.2.2.1), V) := by
    intro m
    induction m with
    | zero =>
      intro b n hb hn
      obtain ⟨n, rfl⟩ : ∃ q, n = q + 1 := ⟨n - 1, by omega⟩
      obtain rfl : b = d.2.2.1 := by omega
      rw [f_X5_thingsIn_L4, h2, if_pos (by rw [i_le]; exact Int.le_refl _)]
    | succ m ih =>
      intro b n hb hn
      obtain ⟨n, rfl⟩ : ∃ q, n = q + 1 := ⟨n - 1, by omega⟩
      have h8 := slot8 hd hs (b := b) (by omega)
      have hN := slotN hd hs (b := b) (by omega)
      rw [f_X5_thingsIn_L4, h2, if_neg (by rw [i_le, i_n (by omega), i_n (by omega)]; omega)]
      unfold f_X3_slotOf_2
      rw [x_b2_some, h2, pk_mul, nI_add, if_pos (x_inN h8 (by decide)), i_c (by omega), h74 _ hN, (b_or _ (p_sh_lt hl hd hs b (by omega)) _ (hl _ hN)).1, nI_1]
      exact ih (b + 1) n (by omega) (by omega)
  exact key d.2.2.1 0 300 rfl (by omega)
theorem c_so (hd : okT d) (h1 : V 2 1 = nI d.2.1) (h2 : V 2 2 = nI d.2.2.1) (hl : ∀ j, j < p_N d → p_at l j < 6) (h74 : ∀ j, j < p_N d → V 74 j = nI (p_at l j)) {t : Nat} (ht : t < 6) : f_X5_seasonsOf (nI t) V = some (nI (p_so d l t d.2.1), V) := by
  have hS := hd.2.2.1
  have key : ∀ (m s n : Nat), m + s = d.2.1 → m < n → f_X5_seasonsOf_L4 (nI t) n (fun l2_5 l3_6 V7 => some (l2_5, V7)) (nI (p_so d l t s)) (nI s) V = some (nI (p_so d l t d.2.1), V) := by
    intro m
    induction m with
    | zero =>
      intro s n hs hn
      obtain ⟨n, rfl⟩ : ∃ q, n = q + 1 := ⟨n - 1, by omega⟩
      obtain rfl : s = d.2.1 := by omega
      rw [f_X5_seasonsOf_L4, h1, if_pos (by rw [i_le]; exact Int.le_refl _)]
    | succ m ih =>
      intro s n hs hn
      obtain ⟨n, rfl⟩ : ∃ q, n = q + 1 := ⟨n - 1, by omega⟩
      have hlt := p_sh_lt hl hd (show s < d.2.1 by omega) d.2.2.1 (Nat.le_refl _)
      have q1 := (p_so_lt (d := d) (l := l) t s (by omega)).1
      have ih' := ih (s + 1) n (by omega) (by omega)
      simp only [p_so] at ih'
      rw [f_X5_seasonsOf_L4, h1, if_neg (by rw [i_le, i_n (by omega), i_n (by omega)]; omega), c_tin hd h2 hl h74 (by omega), x_b2_some, b_bit _ hlt t ht, p_sh_tb hd, nI_1]
      cases hp : p_in d l t s with
      | false =>
        rw [hp] at ih'
        have : ∀ s, s < 4 → nI (if false = true then 1 else 0) <<< (nI s &&& 31) = nI 0 := by decide +kernel
        rw [this s (by omega), b_or' _ q1 _ (by decide)]
        exact ih'
      | true =>
        rw [hp] at ih'
        have : nI (if true = true then 1 else 0) <<< (nI s &&& 31) = nI (2 ^ s) := b_one s (by omega)
        rw [this, b_or' _ q1 _ (pw64 s (by omega))]
        exact ih'
  exact key d.2.1 0 300 rfl (by omega)
/-- the reference's way -/
def m_so (d : sT) (l : List Nat) (t : Nat) : Nat → Nat
  | 0 => 0
  | j + 1 => m_so d l t j ||| (if p_at l j = t then 2 ^ (j / d.2.2.1) else 0)
theorem m_so_lt (hd : okT d) (t : Nat) : ∀ j, j ≤ p_N d → m_so d l t j < 64 := by
  have hS := hd.2.2.1
  intro j
  induction j with
  | zero => intro _; exact (by decide : 0 < 64)
  | succ j ih =>
    intro hj
    have := div_lt_S hd (show j < p_N d by omega)
    simp only [m_so]
    split
    · exact b_or64 (ih (by omega)) (pw64 _ (by omega))
    · exact b_or64 (ih (by omega)) (by decide)
theorem m_so_eq (hd : okT d) (t : Nat) : ∀ s, m_so d l t (s * d.2.2.1) = p_so d l t s := by
  have hC1 := hd.2.2.2.1
  have hC2 := hd.2.2.2.2.1
  intro s
  induction s with
  | zero => rw [Nat.zero_mul]; rfl
  | succ s ih =>
    rcases (show d.2.2.1 = 1 ∨ d.2.2.1 = 2 by omega) with hC | hC
    · rw [show (s + 1) * d.2.2.1 = s * d.2.2.1 + 1 by rw [Nat.succ_mul, hC], m_so, ih, p_so]
      unfold p_in
      rw [show s * d.2.2.1 / d.2.2.1 = s by rw [hC]; omega]
      simp [hC]
    · rw [show (s + 1) * d.2.2.1 = s * d.2.2.1 + 1 + 1 by rw [Nat.succ_mul, hC], m_so, m_so, ih, p_so]
      unfold p_in
      rw [show s * d.2.2.1 / d.2.2.1 = s by rw [hC]; omega, show (s * d.2.2.1 + 1) / d.2.2.1 = s by rw [hC]; omega, Nat.or_assoc]
      congr 1
      by_cases c1 : p_at l (s * d.2.2.1) = t <;> by_cases c2 : p_at l (s * d.2.2.1 + 1) = t <;> simp [hC, c1, c2] <;> simp_all
theorem m_sof (hd : okT d) (h0 : mTo V d) (hl : ∀ j, j < p_N d → p_at l j < 6) (h111 : ∀ j, j < p_N d → V 111 j = nI (p_at l j)) {t : Nat} (ht : t < 6) : f_X7_seasonsOf (nI t) V = some (nI (p_so d l t d.2.1), V) := by
  have hS := hd.2.2.1
  have hC1 := hd.2.2.2.1
  have hC2 := hd.2.2.2.2.1
  have hN := p_N8 hd
  have eN : nI d.2.1 * nI d.2.2.1 = nI (p_N d) := pk_mul _ _
  have key : ∀ (m j n : Nat), m + j = p_N d → m < n → f_X7_seasonsOf_L4 (nI t) n (fun l2_5 l3_6 V7 => some (l2_5, V7)) (nI (m_so d l t j)) (nI j) V = some (nI (m_so d l t (p_N d)), V) := by
    intro m
    induction m with
    | zero =>
      intro j n hj hn
      obtain ⟨n, rfl⟩ : ∃ q, n = q + 1 := ⟨n - 1, by omega⟩
      obtain rfl : j = p_N d := by omega
      rw [f_X7_seasonsOf_L4, h0.2.1, h0.2.2.1, eN, if_pos (by rw [i_le]; exact Int.le_refl _)]
    | succ m ih =>
      intro j n hj hn
      obtain ⟨n, rfl⟩ : ∃ q, n = q + 1 := ⟨n - 1, by omega⟩
      have hdv := div_lt_S hd (show j < p_N d by omega)
      have q1 := m_so_lt (l := l) hd t j (by omega)
      have hp := hl j (by omega)
      have ih' := ih (j + 1) n (by omega) (by omega)
      simp only [m_so] at ih'
      rw [f_X7_seasonsOf_L4, h0.2.1, h0.2.2.1, eN, if_neg (by rw [i_le, i_n (by omega), i_n (by omega)]; omega), if_pos (x_inN (by omega) (by decide)), i_c (by omega), h111 j (by omega), nI_1]
      by_cases c : p_at l j = t
      · rw [if_pos c] at ih'
        rw [if_pos (by rw [c]), if_neg (by rw [i_eq, i_n (by omega), i_0]; omega), pk_div (by omega) (by omega) (by omega), (b_or _ q1 _ (by omega)).1]
        exact ih'
      · rw [if_neg c] at ih'
        rw [if_neg (fun q => c (i_inj (by omega) (by omega) q)), show (0 : Int32) = nI 0 from rfl, b_or' _ q1 _ (by decide)]
        exact ih'
  have := key (p_N d) 0 300 rfl (by omega)
  rw [show m_so d l t (p_N d) = p_so d l t d.2.1 from m_so_eq hd t d.2.1] at this
  exact this
end TI
