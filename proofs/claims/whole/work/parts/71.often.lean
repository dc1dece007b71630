/-! often -/
def popN (b : Nat) : Nat := tbN b 0 + tbN b 1 + tbN b 2 + tbN b 3 + tbN b 4 + tbN b 5
theorem pop_step : ∀ b, b < 64 → b ≠ 0 → nI b &&& (nI b - 1) = nI (b &&& (b - 1)) ∧ b &&& (b - 1) < b ∧ popN b = popN (b &&& (b - 1)) + 1 := by decide +kernel
theorem m_pop {V : xV} {l1 : Int32} : ∀ (n b : Nat), b < n → b < 64 → ∀ (f a : Nat), b < f → f_X7_manyOf_L8 l1 f (fun l2_5 l3_6 V7 => some (l2_5, V7)) (nI a) (nI b) V = some (nI (a + popN b), V) := by
  intro n
  induction n with
  | zero => intro b h; omega
  | succ n ih =>
    intro b hb h64 f a hf
    obtain ⟨f, rfl⟩ : ∃ q, f = q + 1 := ⟨f - 1, by omega⟩
    rw [f_X7_manyOf_L8]
    by_cases h0 : b = 0
    · subst h0
      rw [if_pos (show nI 0 = 0 from rfl)]
      rfl
    · obtain ⟨e1, e2, e3⟩ := pop_step b h64 h0
      rw [if_neg (fun e => h0 ((b_ne0 b h64).mp e)), e1, nI_1, ih _ (by omega) (by omega) f (a + 1) (by omega), e3]
      congr 2
      congr 1
      omega
/-- how often t stands -/
def p_ti (d : sT) (l : List Nat) (t : Nat) : Nat := popN (p_so d l t d.2.1)
theorem popN_le (b : Nat) : popN b ≤ 6 := by
  have : ∀ u, tbN b u ≤ 1 := fun u => by unfold tbN; split <;> omega
  unfold popN
  have := this 0
  have := ‹∀ u, tbN b u ≤ 1› 1
  have := ‹∀ u, tbN b u ≤ 1› 2
  have := ‹∀ u, tbN b u ≤ 1› 3
  have := ‹∀ u, tbN b u ≤ 1› 4
  have := ‹∀ u, tbN b u ≤ 1› 5
  omega
def p_of (d : sT) (l : List Nat) (t : Nat) : Nat → Nat
  | 0 => 0
  | o + 1 => p_of d l t o + (if p_ti d l t < p_ti d l o ∨ (p_ti d l o = p_ti d l t ∧ o < t) then 1 else 0)
theorem p_of_le (d : sT) (l : List Nat) (t : Nat) : ∀ n, p_of d l t n ≤ n := by
  intro n
  induction n with
  | zero => exact Nat.le_refl _
  | succ n ih => simp only [p_of]; split <;> omega
theorem p_of_lt (d : sT) (l : List Nat) {a b : Nat} (h : p_ti d l b < p_ti d l a ∨ (p_ti d l a = p_ti d l b ∧ a < b)) : ∀ n, p_of d l a n ≤ p_of d l b n ∧ (a < n → p_of d l a n < p_of d l b n) := by
  intro n
  induction n with
  | zero => exact ⟨Nat.le_refl _, fun h => by omega⟩
  | succ n ih =>
    simp only [p_of]
    by_cases e : a = n
    · subst e
      rw [if_neg (by omega), if_pos h]
      omega
    · by_cases c : p_ti d l a < p_ti d l n ∨ (p_ti d l n = p_ti d l a ∧ n < a)
      · rw [if_pos c, if_pos (by omega)]
        exact ⟨by omega, fun h => by have := ih.2 (by omega); omega⟩
      · rw [if_neg c]
        exact ⟨by omega, fun h => by have := ih.2 (by omega); omega⟩
theorem p_of_inj (d : sT) (l : List Nat) {a b n : Nat} (ha : a < n) (hb : b < n) (h : p_of d l a n = p_of d l b n) : a = b := by
  by_cases e : a = b
  · exact e
  · exfalso
    by_cases c : p_ti d l b < p_ti d l a ∨ (p_ti d l a = p_ti d l b ∧ a < b)
    · have := (p_of_lt d l c n).2 ha; omega
    · have := (p_of_lt d l (a := b) (b := a) (by omega) n).2 hb; omega
/-- the thing of a rank, below s -/
def p_fr (d : sT) (l : List Nat) (k : Int32) : Nat → Option Nat
  | 0 => none
  | s + 1 => if nI (p_of d l s d.1) = k then some s else p_fr d l k s
theorem p_fr_some (d : sT) (l : List Nat) (k : Int32) (hT : d.1 ≤ 6) {t : Nat} (ht : nI (p_of d l t d.1) = k) (htT : t < d.1) : ∀ s, s ≤ d.1 → p_fr d l k s = if t < s then some t else none := by
  intro s
  induction s with
  | zero => intro _; rfl
  | succ s ih =>
    intro hs
    rw [p_fr, ih (by omega)]
    by_cases e : nI (p_of d l s d.1) = k
    · have h1 := p_of_le d l s d.1
      have h2 := p_of_le d l t d.1
      have : p_of d l s d.1 = p_of d l t d.1 := i_inj (by omega) (by omega) (e.trans ht.symm)
      obtain rfl := p_of_inj d l (show s < d.1 by omega) htT this
      rw [if_pos e, if_pos (by omega)]
    · rw [if_neg e]
      have : t ≠ s := fun q => e (by rw [← q]; exact ht)
      by_cases c : t < s
      · rw [if_pos c, if_pos (by omega)]
      · rw [if_neg c, if_neg (by omega)]
section OF
variable {d : sT} {l : List Nat} {V : xV}
theorem c_rk14 (hd : okT d) (hto : cTo V d) (hl : ∀ j, j < p_N d → p_at l j < 6) (h74 : ∀ j, j < p_N d → V 74 j = nI (p_at l j)) {t : Nat} (ht : t < d.1) : ∀ (m o n : Nat), m + o = d.1 → m < n → f_X5_rankOf_L14 (nI t) (nI (p_ti d l t)) n (fun l3_17 l4_18 V19 => some (l3_17, V19)) (nI (p_of d l t o)) (nI o) V = some (nI (p_of d l t d.1), V) := by
  have hT := hd.1
  have h6 := popN_le (p_so d l t d.2.1)
  intro m
  induction m with
  | zero =>
    intro o n ho hn
    obtain ⟨n, rfl⟩ : ∃ q, n = q + 1 := ⟨n - 1, by omega⟩
    obtain rfl : o = d.1 := by omega
    rw [f_X5_rankOf_L14, hto.1, if_pos (by rw [i_le]; exact Int.le_refl _)]
  | succ m ih =>
    intro o n ho hn
    obtain ⟨n, rfl⟩ : ∃ q, n = q + 1 := ⟨n - 1, by omega⟩
    have ih' := ih (o + 1) n (by omega) (by omega)
    simp only [p_of] at ih'
    have h6o := popN_le (p_so d l o d.2.1)
    have ht6 : p_ti d l t ≤ 6 := h6
    have ho6 : p_ti d l o ≤ 6 := h6o
    rw [f_X5_rankOf_L14, hto.1, if_neg (by rw [i_le, i_n (by omega), i_n (by omega)]; omega), c_so hd hto.2.1 hto.2.2.1 hl h74 (by omega), x_b2_some, b_count _ (p_so_lt o d.2.1 hd.2.2.1).1, x_b2_some, nI_1, nI_1]
    show (if nI (p_ti d l t) < nI (p_ti d l o) then _ else if nI (p_ti d l o) = nI (p_ti d l t) then _ else _) = _
    by_cases c1 : p_ti d l t < p_ti d l o
    · rw [if_pos (by omega)] at ih'
      rw [if_pos (by rw [i_lt, i_n (by omega), i_n (by omega)]; omega)]
      exact ih'
    · rw [if_neg (by rw [i_lt, i_n (by omega), i_n (by omega)]; omega)]
      by_cases c2 : p_ti d l o = p_ti d l t
      · rw [if_pos (by rw [c2])]
        by_cases c3 : t ≤ o
        · rw [if_neg (by omega)] at ih'
          rw [if_pos (by rw [i_le, i_n (by omega), i_n (by omega)]; omega)]
          exact ih'
        · rw [if_pos (by omega)] at ih'
          rw [if_neg (by rw [i_le, i_n (by omega), i_n (by omega)]; omega)]
          exact ih'
      · rw [if_neg (by omega)] at ih'
        rw [if_neg (fun q => c2 (i_inj (by omega) (by omega) q))]
        exact ih'
theorem c_rkof (hd : okT d) (hto : cTo V d) (hl : ∀ j, j < p_N d → p_at l j < 6) (h74 : ∀ j, j < p_N d → V 74 j = nI (p_at l j)) {t : Nat} (ht : t < d.1) : f_X5_rankOf (nI t) V = some (nI (p_of d l t d.1), V) := by
  have hT := hd.1
  unfold f_X5_rankOf
  rw [c_so hd hto.2.1 hto.2.2.1 hl h74 (by omega), x_b2_some, b_count _ (p_so_lt t d.2.1 hd.2.2.1).1, x_b2_some]
  exact c_rk14 hd hto hl h74 ht d.1 0 300 rfl (by omega)
theorem c_ofr (hd : okT d) (hto : cTo V d) (hl : ∀ j, j < p_N d → p_at l j < 6) (h74 : ∀ j, j < p_N d → V 74 j = nI (p_at l j)) (k : Int32) : f_X5_thingOfRank k V = some (oI (p_fr d l k d.1), V) := by
  have hT := hd.1
  have key : ∀ (m t n : Nat), m + t = d.1 → m < n → p_fr d l k t = none → f_X5_thingOfRank_L2 k n (fun l2_6 V7 => some ((-9 : Int32), V7)) (nI t) V = some (oI (p_fr d l k d.1), V) := by
    intro m
    induction m with
    | zero =>
      intro t n ht hn hp
      obtain ⟨n, rfl⟩ : ∃ q, n = q + 1 := ⟨n - 1, by omega⟩
      obtain rfl : t = d.1 := by omega
      rw [f_X5_thingOfRank_L2, hto.1, if_pos (by rw [i_le]; exact Int.le_refl _), hp]
      rfl
    | succ m ih =>
      intro t n ht hn hp
      obtain ⟨n, rfl⟩ : ∃ q, n = q + 1 := ⟨n - 1, by omega⟩
      rw [f_X5_thingOfRank_L2, hto.1, if_neg (by rw [i_le, i_n (by omega), i_n (by omega)]; omega), c_rkof hd hto hl h74 (by omega), x_b2_some, nI_1]
      by_cases c : nI (p_of d l t d.1) = k
      · rw [if_pos c, p_fr_some d l k hT c (by omega) d.1 (Nat.le_refl _), if_pos (show t < d.1 by omega)]
        rfl
      · rw [if_neg c]
        refine ih (t + 1) n (by omega) (by omega) ?_
        rw [p_fr, if_neg c, hp]
  exact key d.1 0 300 rfl (by omega) rfl
theorem m_many (hd : okT d) (h0 : mTo V d) (hl : ∀ j, j < p_N d → p_at l j < 6) (h111 : ∀ j, j < p_N d → V 111 j = nI (p_at l j)) {t : Nat} (ht : t < 6) : f_X7_manyOf (nI t) V = some (nI (p_ti d l t), V) := by
  unfold f_X7_manyOf
  rw [m_sof hd h0 hl h111 ht, x_b2_some]
  have := (p_so_lt (d := d) (l := l) t d.2.1 hd.2.2.1).1
  have e := m_pop (V := V) (l1 := nI t) 64 (p_so d l t d.2.1) this this 300 0 (by omega)
  rw [Nat.zero_add] at e
  exact e
theorem m_of41 (hd : okT d) (h0 : mTo V d) (hl : ∀ j, j < p_N d → p_at l j < 6) (h111 : ∀ j, j < p_N d → V 111 j = nI (p_at l j)) {F : Nat} {l1 l2 l3 : Int32} {t : Nat} (ht : t < d.1) {k : Int32 → Int32 → xV → Option (Int32 × xV)} : ∀ (m o n : Nat), m + o = d.1 → m < n → f_X7_often_L41 F l1 l2 l3 (nI t) n k (nI (p_of d l t o)) (nI o) V = k (nI (p_of d l t d.1)) (nI d.1) V := by
  have hT := hd.1
  have h6 := popN_le (p_so d l t d.2.1)
  intro m
  induction m with
  | zero =>
    intro o n ho hn
    obtain ⟨n, rfl⟩ : ∃ q, n = q + 1 := ⟨n - 1, by omega⟩
    obtain rfl : o = d.1 := by omega
    rw [f_X7_often_L41, h0.1, if_pos (by rw [i_le]; exact Int.le_refl _)]
  | succ m ih =>
    intro o n ho hn
    obtain ⟨n, rfl⟩ : ∃ q, n = q + 1 := ⟨n - 1, by omega⟩
    have ih' := ih (o + 1) n (by omega) (by omega)
    simp only [p_of] at ih'
    have ht6 : p_ti d l t ≤ 6 := h6
    have ho6 : p_ti d l o ≤ 6 := popN_le (p_so d l o d.2.1)
    have z0 : ∀ a, nI a + 0 = nI (a + 0) := fun a => nI_add a 0
    rw [f_X7_often_L41, h0.1, if_neg (by rw [i_le, i_n (by omega), i_n (by omega)]; omega), m_many hd h0 hl h111 (by omega), x_b2_some, m_many hd h0 hl h111 (by omega), x_b2_some, m_many hd h0 hl h111 (by omega), x_b2_some, m_many hd h0 hl h111 (by omega), x_b2_some, nI_1, nI_1, z0]
    by_cases c1 : p_ti d l t < p_ti d l o
    · rw [if_pos (by omega)] at ih'
      rw [if_pos (by rw [i_lt, i_n (by omega), i_n (by omega)]; omega)]
      exact ih'
    · rw [if_neg (by rw [i_lt, i_n (by omega), i_n (by omega)]; omega)]
      by_cases c2 : p_ti d l o = p_ti d l t
      · rw [if_pos (by rw [c2])]
        by_cases c3 : t ≤ o
        · rw [if_neg (by omega)] at ih'
          rw [if_pos (by rw [i_le, i_n (by omega), i_n (by omega)]; omega)]
          exact ih'
        · rw [if_pos (by omega)] at ih'
          rw [if_neg (by rw [i_le, i_n (by omega), i_n (by omega)]; omega)]
          exact ih'
      · rw [if_neg (by omega)] at ih'
        rw [if_neg (fun q => c2 (i_inj (by omega) (by omega) q))]
        exact ih'
theorem m_of22 (hd : okT d) (h0 : mTo V d) (hl : ∀ j, j < p_N d → p_at l j < 6) (h111 : ∀ j, j < p_N d → V 111 j = nI (p_at l j)) {F : Nat} {l1 : Int32} : ∀ (m t n : Nat), m + t = d.1 → m < n → f_X7_often_L22 F l1 1 n (fun l2_27 l4_28 V29 => some (l2_27, V29)) (oI (p_fr d l l1 t)) (nI t) V = some (oI (p_fr d l l1 d.1), V) := by
  have hT := hd.1
  intro m
  induction m with
  | zero =>
    intro t n ht hn
    obtain ⟨n, rfl⟩ : ∃ q, n = q + 1 := ⟨n - 1, by omega⟩
    obtain rfl : t = d.1 := by omega
    rw [f_X7_often_L22, h0.1, if_pos (by rw [i_le]; exact Int.le_refl _)]
  | succ m ih =>
    intro t n ht hn
    obtain ⟨n, rfl⟩ : ∃ q, n = q + 1 := ⟨n - 1, by omega⟩
    have ih' := ih (t + 1) n (by omega) (by omega)
    rw [p_fr] at ih'
    rw [f_X7_often_L22, h0.1, if_neg (by rw [i_le, i_n (by omega), i_n (by omega)]; omega), if_neg (by decide)]
    refine (m_of41 hd h0 hl h111 (show t < d.1 by omega) d.1 0 300 rfl (by omega)).trans ?_
    rw [nI_1]
    by_cases c : nI (p_of d l t d.1) = l1
    · rw [if_pos c] at ih'
      rw [if_pos c]
      exact ih'
    · rw [if_neg c] at ih'
      rw [if_neg c]
      exact ih'
end OF
theorem st_often (z : sS) (hz : okS z) (a : Int32) : stp (f_X6_often a) (fun F => f_X7_often F a) z := by
  obtain ⟨x, d, w, hi, im, se⟩ := z
  obtain ⟨o1, o2, o3, o4, o5, o6, o7, o8, o9⟩ := hz.split
  have hT := o3.1
  by_cases ha : 0 ≤ a
  · refine stp.mk hz (match p_best d w none with | none => -9 | some q => oI (p_fr d q.2.2 a d.1)) (fun V h => ?_) (fun V h => ?_)
    · obtain ⟨V', e, k, f, hh⟩ := c_has hz h
      refine ⟨V', ?_, k, f⟩
      unfold f_X6_often
      rw [if_pos ha, e, x_b2_some]
      cases hb : p_best d w none with
      | none => rfl
      | some q =>
        have hl := best_at o3 hb
        rw [Option.isSome_some, if_neg (by decide), c_ofr o3 k.to (fun j hj => by have := hl j hj; omega) (hh.2.1 q hb).2, x_b2_some]
    · obtain ⟨F, V', e, m, f, r⟩ := m_isPlan hz h.th
      refine ⟨F, V', ?_, m, frM.th.tr f⟩
      show f_X7_often F _ V = _
      unfold f_X7_often
      rw [if_pos ha, e F (Nat.le_refl _), x_b2_some]
      cases hb : p_best d w none with
      | none =>
        rw [f_X7_often_L22, m.to.1]
        by_cases h0 : nI d.1 ≤ 0
        · rw [if_pos h0]
        · rw [if_neg h0, if_pos (by decide)]
      | some q =>
        have hl := best_at o3 hb
        rw [hb] at r
        exact m_of22 o3 m.to (fun j hj => by have := hl j hj; omega) r.2.2.1 d.1 0 300 rfl (by omega)
  · refine stp.same hz (-1) (fun V h => ?_) (fun V h => ?_)
    · unfold f_X6_often
      rw [if_neg ha]
    · show f_X7_often 0 _ V = _
      unfold f_X7_often
      rw [if_neg ha]
