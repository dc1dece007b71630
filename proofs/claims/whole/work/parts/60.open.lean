/-! what is open -/
theorem b_or : ∀ b, b < 64 → ∀ s, s < 6 → nI b ||| ((1 : Int32) <<< (nI s &&& 31)) = nI (b ||| 2 ^ s) ∧ b ||| 2 ^ s < 64 := by decide +kernel
theorem b_or_tb (b s t : Nat) : (b ||| 2 ^ s).testBit t = (b.testBit t || decide (s = t)) := by rw [Nat.testBit_or, Nat.testBit_two_pow]
theorem b_an7 : ∀ a, a < 64 → ∀ b, b < 128 → nI a &&& (nI b ^^^ (-1 : Int32)) = nI (a &&& (b ^^^ 127)) := by decide +kernel
theorem b_127 : ∀ t, t < 6 → (127 : Nat).testBit t = true := by decide
theorem b_an7_tb {a b t : Nat} (ht : t < 6) : (a &&& (b ^^^ 127)).testBit t = (a.testBit t && !b.testBit t) := by
  rw [Nat.testBit_and, Nat.testBit_xor, b_127 t ht]
  cases b.testBit t <;> simp
theorem b_and : ∀ a, a < 64 → ∀ b, b < 64 → nI a &&& nI b = nI (a &&& b) := by decide +kernel
/-- one more bit -/
def b_set (b s : Nat) (P : Nat → Bool) : Prop := b < 64 ∧ ∀ t, t < 6 → b.testBit t = (decide (t < s) && P t)
theorem b_set0 (P : Nat → Bool) : b_set 0 0 P := ⟨by decide, fun t _ => by simp⟩
theorem b_set_t {b s : Nat} {P : Nat → Bool} (h : b_set b s P) (hs : s < 6) (hP : P s = true) : b_set (b ||| 2 ^ s) (s + 1) P := by
  refine ⟨(b_or b h.1 s hs).2, fun t ht => ?_⟩
  rw [b_or_tb, h.2 t ht]
  by_cases e : s = t
  · subst e; simp [hP]
  · have : decide (t < s + 1) = decide (t < s) := decide_eq_decide.mpr (by omega)
    simp [e, this]
theorem b_set_f {b s : Nat} {P : Nat → Bool} (h : b_set b s P) (hP : P s = false) : b_set b (s + 1) P := by
  refine ⟨h.1, fun t ht => ?_⟩
  rw [h.2 t ht]
  by_cases e : s = t
  · subst e; simp [hP]
  · have : decide (t < s + 1) = decide (t < s) := decide_eq_decide.mpr (by omega)
    rw [this]
section OP
variable {d : sT} {w : sW} {V : xV}
theorem c_bear (hd : okT d) (h1 : V 2 0 = nI d.1) {cp : Nat → Nat} (hcp : ∀ t, t < d.1 → cp t ≤ 1000) (h79 : ∀ t, t < d.1 → V 79 t = nI (cp t)) {li : Nat} (hli : li ≤ 30) : ∃ b, b_set b d.1 (fun t => decide (li ≤ cp t)) ∧ f_X2_thingsThatBear (nI li) V = some (nI b, V) := by
  have hT := hd.1
  have key : ∀ (m s n b : Nat), m + s = d.1 → m < n → b_set b s (fun t => decide (li ≤ cp t)) → ∃ b', b_set b' d.1 (fun t => decide (li ≤ cp t)) ∧ f_X2_thingsThatBear_L4 (nI li) n (fun l2_4 l3_5 V6 => some (l2_4, V6)) (nI b) (nI s) V = some (nI b', V) := by
    intro m
    induction m with
    | zero =>
      intro s n b hs hn hb
      obtain ⟨n, rfl⟩ : ∃ q, n = q + 1 := ⟨n - 1, by omega⟩
      obtain rfl : s = d.1 := by omega
      refine ⟨b, hb, ?_⟩
      rw [f_X2_thingsThatBear_L4, h1, if_pos (by rw [i_le]; exact Int.le_refl _)]
    | succ m ih =>
      intro s n b hs hn hb
      obtain ⟨n, rfl⟩ : ∃ q, n = q + 1 := ⟨n - 1, by omega⟩
      have := hcp s (by omega)
      rw [f_X2_thingsThatBear_L4, h1, if_neg (by rw [i_le, i_n (by omega), i_n (by omega)]; omega), if_pos (x_inN (by omega) (by decide)), i_c (by omega), h79 s (by omega), nI_1]
      by_cases c : cp s < li
      · rw [if_pos (by rw [i_lt, i_n (by omega), i_n (by omega)]; omega)]
        exact ih (s + 1) n b (by omega) (by omega) (b_set_f hb (decide_eq_false (by omega)))
      · rw [if_neg (by rw [i_lt, i_n (by omega), i_n (by omega)]; omega), (b_or b hb.1 s (by omega)).1]
        exact ih (s + 1) n _ (by omega) (by omega) (b_set_t hb (by omega) (decide_eq_true (by omega)))
  exact key d.1 0 300 0 rfl (by omega) (b_set0 _)
/-- lent in season s -/
def p_away (w : sW) (s t : Nat) : Bool := p_on w 1 && (match w.2.1 t with
  | none => false
  | some p => decide (p.1 ≤ s) && decide (s ≤ p.2))
theorem c_away (hd : okT d) (hw : okW d w) (hc : cW d V 5 w) {s : Nat} (hs : s < d.2.1) : ∃ b, b_set b 6 (p_away w s) ∧ f_X4_awayNow_5 (nI s) V = some (nI b, V) := by
  have hS := hd.2.2.1
  have key : ∀ (m t n b : Nat), m + t = 6 → m < n → b_set b t (p_away w s) → ∃ b', b_set b' 6 (p_away w s) ∧ f_X4_awayNow_5_L4 (nI s) n (fun l2_9 l3_10 V11 => some (l2_9, V11)) (nI b) (nI t) V = some (nI b', V) := by
    intro m
    induction m with
    | zero =>
      intro t n b ht hn hb
      obtain ⟨n, rfl⟩ : ∃ q, n = q + 1 := ⟨n - 1, by omega⟩
      obtain rfl : t = 6 := by omega
      refine ⟨b, hb, ?_⟩
      rw [f_X4_awayNow_5_L4, if_pos (by decide)]
    | succ m ih =>
      intro t n b ht hn hb
      obtain ⟨n, rfl⟩ : ∃ q, n = q + 1 := ⟨n - 1, by omega⟩
      obtain ⟨e1, e2, -⟩ := hc.2.1 t (by omega)
      rw [f_X4_awayNow_5_L4, if_neg (by rw [i_le, i_n (by omega), show (6 : Int32).toInt = 6 from rfl]; omega), show f_X4_isOn_5 (1 : Int32) V = some (bI (w.2.2.2.testBit 1), V) from c_on hc.2.2 hw.2.2.2.2.2.2 (by decide), x_b2_some]
      cases hon : w.2.2.2.testBit 1 with
      | false =>
        rw [if_pos bI_f]
        refine ⟨b, ⟨hb.1, fun u hu => ?_⟩, rfl⟩
        rw [hb.2 u hu]
        simp [p_away, p_on, hon]
      | true =>
        rw [if_neg (by decide), if_pos (x_inN (by omega) (by decide)), i_c (by omega), show V 7 t = lF (w.2.1 t) from e1, show V 8 t = lT (w.2.1 t) from e2, nI_1]
        cases hl : w.2.1 t with
        | none =>
          rw [if_neg (by rw [i_lt, i_n (by omega)]; show ¬ _ < (-9 : Int32).toInt; rw [show (-9 : Int32).toInt = -9 from rfl]; omega), if_pos (by rw [i_lt, i_n (by omega)]; show (-9 : Int32).toInt < _; rw [show (-9 : Int32).toInt = -9 from rfl]; omega)]
          exact ih (t + 1) n b (by omega) (by omega) (b_set_f hb (by simp [p_away, hl]))
        | some p =>
          obtain ⟨q1, q2, q3⟩ := hw.2.1 t p (by omega) hl
          by_cases c1 : s < p.1
          · rw [if_pos (by rw [i_lt, i_n (by omega)]; show _ < (nI p.1).toInt; rw [i_n (by omega)]; omega)]
            exact ih (t + 1) n b (by omega) (by omega) (b_set_f hb (by have : decide (p.1 ≤ s) = false := decide_eq_false (by omega); simp [p_away, hl, this]))
          · rw [if_neg (by rw [i_lt, i_n (by omega)]; show ¬ _ < (nI p.1).toInt; rw [i_n (by omega)]; omega)]
            by_cases c2 : p.2 < s
            · rw [if_pos (by rw [i_lt, i_n (show s < 2000 by omega)]; show (nI p.2).toInt < _; rw [i_n (by omega)]; omega)]
              exact ih (t + 1) n b (by omega) (by omega) (b_set_f hb (by have : decide (s ≤ p.2) = false := decide_eq_false (by omega); simp [p_away, hl, this]))
            · rw [if_neg (by rw [i_lt, i_n (show s < 2000 by omega)]; show ¬ (nI p.2).toInt < _; rw [i_n (by omega)]; omega), (b_or b hb.1 t (by omega)).1]
              exact ih (t + 1) n _ (by omega) (by omega) (b_set_t hb (by omega) (by have q1 : decide (s ≤ p.2) = true := decide_eq_true (by omega); have q2 : decide (p.1 ≤ s) = true := decide_eq_true (by omega); simp [p_away, p_on, hon, hl, q1, q2]))
  exact key 6 0 300 0 rfl (by omega) (b_set0 _)
/-- wanted in a case -/
def p_want (w : sW) (s b t : Nat) : Bool := !p_on w 3 || (match w.1 s b with
  | none => true
  | some x => decide (x = t))
theorem c_want (hd : okT d) (hw : okW d w) (hc : cW d V 5 w) {s b : Nat} (hs : s < d.2.1) (hb : b < d.2.2.1) : ∃ q, b_set q 6 (p_want w s b) ∧ f_X4_wantedNow_5 (nI (s * d.2.2.1 + b)) V = some (nI q, V) := by
  have hT := hd.1
  have hj : s * d.2.2.1 + b < 8 := by
    have hN := p_N8 hd
    unfold p_N at hN
    have : (s + 1) * d.2.2.1 ≤ d.2.1 * d.2.2.1 := Nat.mul_le_mul_right _ hs
    rw [Nat.succ_mul] at this
    omega
  have e := hc.1 s b hs hb
  have full : ∀ P : Nat → Bool, (∀ t, t < 6 → P t = true) → b_set 63 6 P := fun P h => ⟨by decide, fun t ht => by rw [b_63 t ht, h t ht, decide_eq_true ht]; rfl⟩
  unfold f_X4_wantedNow_5
  rw [show (3 : Int32) = nI 3 from rfl, c_on hc.2.2 hw.2.2.2.2.2.2 (by decide), x_b2_some]
  cases hon : w.2.2.2.testBit 3 with
  | false =>
    rw [if_pos bI_f]
    exact ⟨63, full _ (fun t _ => by simp [p_want, p_on, hon]), rfl⟩
  | true =>
    rw [if_neg (by decide), if_pos (x_inN hj (by decide)), i_c (by omega), show V 6 (s * d.2.2.1 + b) = oI (w.1 s b) from e]
    cases hx : w.1 s b with
    | none =>
      rw [if_pos (show oI none = -9 from rfl)]
      exact ⟨63, full _ (fun t _ => by simp [p_want, hx]), rfl⟩
    | some x =>
      have hxT := hw.1 s b x hs hb hx
      rw [if_neg (by show ¬ nI x = -9; rw [i_eq, i_n (by omega), show (-9 : Int32).toInt = -9 from rfl]; omega)]
      have q := b_or 0 (by decide) x (by omega)
      rw [Nat.zero_or] at q
      refine ⟨2 ^ x, ⟨q.2, fun t ht => ?_⟩, by rw [show oI (some x) = nI x from rfl, b_one x (by omega)]⟩
      rw [Nat.testBit_two_pow]
      have : decide (t < 6) = true := decide_eq_true ht
      simp [p_want, p_on, hon, hx, this]
theorem b_ne0 : ∀ a, a < 64 → (nI a = 0 ↔ a = 0) := fun a h => by rw [show (0 : Int32) = nI 0 from rfl]; exact nI_eq (by omega) (by omega)
/-- with a partner -/
def p_par (fo : Nat → Nat) (some others t : Nat) : Bool := some.testBit t && decide (others &&& (fo t ^^^ 63) ≠ 0)
theorem c_par (hd : okT d) (h1 : V 2 0 = nI d.1) {fo : Nat → Nat} (hfo : ∀ t, t < d.1 → fo t < 64) (h80 : ∀ t, t < d.1 → V 80 t = nI (fo t)) {so ot : Nat} (hso : so < 64) (hot : ot < 64) : ∃ b, b_set b d.1 (p_par fo so ot) ∧ f_X2_withPartner (nI so) (nI ot) V = some (nI b, V) := by
  have hT := hd.1
  have key : ∀ (m s n b : Nat), m + s = d.1 → m < n → b_set b s (p_par fo so ot) → ∃ b', b_set b' d.1 (p_par fo so ot) ∧ f_X2_withPartner_L5 (nI so) (nI ot) n (fun l3_5 l4_6 V7 => some (l3_5, V7)) (nI b) (nI s) V = some (nI b', V) := by
    intro m
    induction m with
    | zero =>
      intro s n b hs hn hb
      obtain ⟨n, rfl⟩ : ∃ q, n = q + 1 := ⟨n - 1, by omega⟩
      obtain rfl : s = d.1 := by omega
      refine ⟨b, hb, ?_⟩
      rw [f_X2_withPartner_L5, h1, if_pos (by rw [i_le]; exact Int.le_refl _)]
    | succ m ih =>
      intro s n b hs hn hb
      obtain ⟨n, rfl⟩ : ∃ q, n = q + 1 := ⟨n - 1, by omega⟩
      have hf := hfo s (by omega)
      have ha : ot &&& (fo s ^^^ 63) < 64 := b_an_lt hot
      rw [f_X2_withPartner_L5, h1, if_neg (by rw [i_le, i_n (by omega), i_n (by omega)]; omega), b_bit _ hso s (by omega), nI_1]
      cases hb2 : so.testBit s with
      | false =>
        rw [if_neg (by decide)]
        exact ih (s + 1) n b (by omega) (by omega) (b_set_f hb (by simp [p_par, hb2]))
      | true =>
        rw [if_pos (by decide), if_pos (x_inN (by omega) (by decide)), i_c (by omega), h80 s (by omega), b_an _ hot _ hf]
        by_cases c : ot &&& (fo s ^^^ 63) = 0
        · rw [if_pos (by rw [c]; rfl)]
          exact ih (s + 1) n b (by omega) (by omega) (b_set_f hb (by simp [p_par, c]))
        · rw [if_neg (fun q => c ((b_ne0 _ ha).mp q)), (b_or b hb.1 s (by omega)).1]
          exact ih (s + 1) n _ (by omega) (by omega) (b_set_t hb (by omega) (by simp [p_par, hb2, c]))
  exact key d.1 0 300 0 rfl (by omega) (b_set0 _)
end OP
