/-! the class's search -/
def qP (d : sT) (op cp ru fo : Nat → Nat) (fr any : Bool) (V : xV) : Prop := V 2 0 = nI d.1 ∧ V 2 2 = nI d.2.2.1 ∧ V 76 11 = nI (p_N d) ∧ (V 76 12 = 0 ↔ any = false) ∧ V 76 13 = bI fr ∧ (∀ j, j < p_N d → V 77 j = nI (op j) ∧ V 78 j = nI (p_lt d j)) ∧ (∀ t, t < d.1 → V 79 t = nI (cp t) ∧ V 80 t = nI (fo t)) ∧ ∀ j, j < p_N d + d.2.2.1 → V 84 j = nI (ru j)
def qF (V0 V : xV) : Prop := (∀ a, a ≠ 76 → a ≠ 81 → a ≠ 82 → a ≠ 83 → a ≠ 85 → V a = V0 a) ∧ ∀ k, k ≠ 14 → k ≠ 15 → k ≠ 16 → V 76 k = V0 76 k
theorem qP.fr {d : sT} {op cp ru fo : Nat → Nat} {fr any : Bool} {V0 V : xV} (h : qP d op cp ru fo fr any V0) (f : qF V0 V) : qP d op cp ru fo fr any V := by
  obtain ⟨h1, h2, h3, h4, h5, h6, h7, h8⟩ := h
  obtain ⟨f1, f2⟩ := f
  refine ⟨?_, ?_, ?_, ?_, ?_, fun j hj => ?_, fun t ht => ?_, fun j hj => ?_⟩
  · rw [f1 2 (by decide) (by decide) (by decide) (by decide) (by decide)]; exact h1
  · rw [f1 2 (by decide) (by decide) (by decide) (by decide) (by decide)]; exact h2
  · rw [f2 _ (by decide) (by decide) (by decide)]; exact h3
  · rw [f2 _ (by decide) (by decide) (by decide)]; exact h4
  · rw [f2 _ (by decide) (by decide) (by decide)]; exact h5
  · rw [f1 77 (by decide) (by decide) (by decide) (by decide) (by decide), f1 78 (by decide) (by decide) (by decide) (by decide) (by decide)]; exact h6 j hj
  · rw [f1 79 (by decide) (by decide) (by decide) (by decide) (by decide), f1 80 (by decide) (by decide) (by decide) (by decide) (by decide)]; exact h7 t ht
  · rw [f1 84 (by decide) (by decide) (by decide) (by decide) (by decide)]; exact h8 j hj
def q85 (d : sT) (op cp ru : Nat → Nat) (V : xV) : List Nat → Prop
  | [] => True
  | u :: l => V 85 l.length = nI (q_ca d op cp ru l u) ∧ q85 d op cp ru V l
theorem q85.cg {d : sT} {op cp ru : Nat → Nat} {V V' : xV} : ∀ l, q85 d op cp ru V l → (∀ i, i < l.length → V' 85 i = V 85 i) → q85 d op cp ru V' l := by
  intro l
  induction l with
  | nil => intro _ _; trivial
  | cons u l ih =>
    intro h e
    exact ⟨(e _ (by simp)).trans h.1, ih h.2 (fun i hi => e i (by rw [List.length_cons]; omega))⟩
def qB (d : sT) (op cp ru : Nat → Nat) (V0 V : xV) (l : List Nat) : Prop := qF V0 V ∧ (∀ i, i < l.length → V 82 i = nI (p_at l i)) ∧ (∀ t, t < d.1 → V 81 t = nI (p_sm d l t)) ∧ q85 d op cp ru V l ∧ ∀ x ∈ l, x < d.1
def qR (d : sT) (any : Bool) (V : xV) (a : Option (Nat × List Nat)) : Prop := V 76 16 = nI (q_lim any a) ∧ match a with
  | none => V 76 14 = 0
  | some q => V 76 14 = 1 ∧ V 76 15 = nI q.1 ∧ (∀ k, k < p_N d → V 83 k = nI (p_at q.2 k)) ∧ q.1 ≤ 240
theorem b_an : ∀ a, a < 64 → ∀ b, b < 64 → nI a &&& (nI b ^^^ (-1 : Int32)) = nI (a &&& (b ^^^ 63)) := by decide +kernel
theorem b_an_lt {a b : Nat} (h : a < 64) : a &&& b < 64 := Nat.lt_of_le_of_lt Nat.and_le_left h
theorem b_63 : ∀ t, t < 6 → (63 : Nat).testBit t = true := by decide
theorem b_an_tb {a b t : Nat} (ht : t < 6) : (a &&& (b ^^^ 63)).testBit t = (a.testBit t && !b.testBit t) := by
  rw [Nat.testBit_and, Nat.testBit_xor, b_63 t ht]
  cases b.testBit t <;> simp
theorem b_hi : ∀ a, a < 64 → ∀ u, u < 6 → nI a &&& ((-1 : Int32) <<< (nI u &&& 31)) = nI (a / 2 ^ u * 2 ^ u) ∧ a / 2 ^ u * 2 ^ u < 64 ∧ ∀ t, t < 6 → (a / 2 ^ u * 2 ^ u).testBit t = (a.testBit t && decide (u ≤ t)) := by decide +kernel
theorem b_odd : ∀ j, j < 8 → nI j &&& 1 = nI (j % 2) := by decide +kernel
theorem bI_1 (p : Bool) : bI p = 1 ↔ p = true := by cases p <;> decide
theorem bI_0 (p : Bool) : bI p = 0 ↔ p = false := by cases p <;> decide
section CF
variable {d : sT} {op cp ru fo : Nat → Nat} {cf : Nat → Nat → Bool} {fr any : Bool} {V : xV}
theorem q_lv_lt (t : Nat) (hC : 1 ≤ d.2.2.1) : ∀ n nx s, nx < p_N d + d.2.2.1 → q_lv d op cp t n nx s < p_N d + d.2.2.1 := by
  intro n
  induction n with
  | zero => intro nx s h; exact h
  | succ n ih =>
    intro nx s h
    rw [q_lv]
    split
    · exact h
    · split
      · exact h
      · split
        · exact h
        · exact ih _ _ (by omega)
theorem c_lv17 (hd : okT d) (hP : qP d op cp ru fo fr any V) (ho : ∀ j, j < p_N d → op j < 64) (hcp : ∀ t, t < d.1 → cp t ≤ 1000) {t : Nat} (ht : t < d.1) {l2 l3 : Int32} : ∀ (m i n nx s : Nat), m + i = 4 → m < n → nx < p_N d + d.2.2.1 → s ≤ 300 + 30 * i → f_X2_leavesAt_L17 (nI t) l2 l3 n (fun l4_7 l5_8 l6_9 V10 => some (l4_7, V10)) (nI nx) (nI s) (nI i) V = some (nI (q_lv d op cp t m nx s), V) := by
  have hN := p_N8 hd
  have hT := hd.1
  have hC1 := hd.2.2.2.1
  have hC2 := hd.2.2.2.2.1
  obtain ⟨h1, h2, h3, h4, h5, h6, h7, h8⟩ := hP
  intro m
  induction m with
  | zero =>
    intro i n nx s hm hn hx hs
    obtain ⟨n, rfl⟩ : ∃ q, n = q + 1 := ⟨n - 1, by omega⟩
    obtain rfl : i = 4 := by omega
    rw [f_X2_leavesAt_L17, if_pos (by decide)]
    rfl
  | succ m ih =>
    intro i n nx s hm hn hx hs
    obtain ⟨n, rfl⟩ : ∃ q, n = q + 1 := ⟨n - 1, by omega⟩
    rw [f_X2_leavesAt_L17, if_neg (by rw [i_le, i_n (by omega), show (4 : Int32).toInt = 4 from rfl]; omega), h3, q_lv]
    by_cases c1 : p_N d ≤ nx
    · rw [if_pos (by rw [i_le, i_n (by omega), i_n (by omega)]; omega), if_pos c1]
    · have hnx : nx < p_N d := by omega
      obtain ⟨e1, e2⟩ := h6 nx hnx
      obtain ⟨e3, e4⟩ := h7 t ht
      have hl := p_lt_le hd hnx
      have hc := hcp t ht
      rw [if_neg (by rw [i_le, i_n (by omega), i_n (by omega)]; omega), if_neg c1, if_pos (x_inN (by omega) (by decide)), i_c (by omega), e1, b_bit _ (ho nx hnx) t (by omega)]
      by_cases c2 : (op nx).testBit t = false
      · rw [if_pos (by rw [c2]; rfl), if_pos c2]
      · have c2' : (op nx).testBit t = true := by simpa using c2
        rw [if_neg (by rw [c2']; decide), if_neg c2, if_pos (x_inN (by omega) (by decide)), i_c (by omega), e2, e3, nI_add, h2, nI_1, nI_add]
        by_cases c3 : cp t < s + p_lt d nx
        · rw [if_neg (by rw [i_le, i_n (by omega), i_n (by omega)]; omega), if_pos c3]
        · rw [if_pos (by rw [i_le, i_n (by omega), i_n (by omega)]; omega), if_neg c3]
          exact ih (i + 1) n _ _ (by omega) (by omega) (by omega) (by omega)
theorem c_leaves (hd : okT d) (hP : qP d op cp ru fo fr any V) (ho : ∀ j, j < p_N d → op j < 64) (hcp : ∀ t, t < d.1 → cp t ≤ 1000) {t j s : Nat} (ht : t < d.1) (hj : j < p_N d) (hs : s ≤ 300) : f_X2_leavesAt (nI t) (nI j) (nI s) V = some (nI (q_lv d op cp t 4 (j + d.2.2.1) s), V) := by
  unfold f_X2_leavesAt
  rw [hP.2.1, nI_add]
  exact c_lv17 hd hP ho hcp ht 4 0 300 _ _ rfl (by decide) (by omega) (by omega)
/-- what is held of the foes -/
def q_fo (d : sT) (cf : Nat → Nat → Bool) (fo : Nat → Nat) : Prop := ∀ u, u < d.1 → fo u < 64 ∧ ∀ t, t < d.1 → (fo u).testBit t = cf t u
theorem c_beside (hd : okT d) (hP : qP d op cp ru fo fr any V) (ho : ∀ j, j < p_N d → op j < 64) (hf : q_fo d cf fo) {V0 : xV} {l : List Nat} (hB : qB d op cp ru V0 V l) (hl : l.length < p_N d) (hC : d.2.2.1 = 2) (hm : l.length % 2 = 1) : ∃ bb, bb < 64 ∧ f_X2_besideFirst (nI l.length) V = some (nI bb, V) ∧ ∀ t, t < d.1 → bb.testBit t = q_bt d op cf (fun j => fr && decide (op j = op (j - 1))) l t := by
  have hN := p_N8 hd
  have hT := hd.1
  obtain ⟨h1, h2, h3, h4, h5, h6, h7, h8⟩ := hP
  cases l with
  | nil => simp at hm
  | cons u l' =>
    have hu : u < d.1 := hB.2.2.2.2 u List.mem_cons_self
    have e82 : V 82 l'.length = nI u := by rw [hB.2.1 l'.length (by simp), p_at_top]
    obtain ⟨f1, f2⟩ := hf u hu
    have ho1 := ho _ hl
    rw [List.length_cons] at *
    have hs : ∀ t, q_bt d op cf (fun j => fr && decide (op j = op (j - 1))) (u :: l') t = ((op (l'.length + 1)).testBit t && (!cf t u && (!(fr && decide (op (l'.length + 1) = op l'.length)) || decide (u ≤ t)))) := by
      intro t
      unfold q_bt g_sd
      rw [p_sd_cons, hC, if_neg (by omega)]
      rfl
    have em : nI (l'.length + 1) - 1 = nI l'.length := by rw [← nI_1, Int32.add_sub_cancel]
    have e77a := (h6 (l'.length + 1) hl).1
    have e77b := (h6 l'.length (by omega)).1
    have key : f_X2_besideFirst (nI (l'.length + 1)) V = if fr = false then some (nI (op (l'.length + 1)) &&& (nI (fo u) ^^^ -1), V) else if op (l'.length + 1) = op l'.length then some ((nI (op (l'.length + 1)) &&& (nI (fo u) ^^^ -1)) &&& ((-1 : Int32) <<< (nI u &&& 31)), V) else some (nI (op (l'.length + 1)) &&& (nI (fo u) ^^^ -1), V) := by
      unfold f_X2_besideFirst
      rw [em, if_pos (x_inN (by omega) (by decide)), if_pos (x_inN (by omega) (by decide)), i_c (by omega), i_c (by omega), e82, if_pos (x_inN (by omega) (by decide)), i_c (by omega), e77a, e77b, h5, (h7 u hu).2]
      have q1 : (bI fr = 0) = (fr = false) := propext (bI_0 fr)
      have q2 : (nI (op (l'.length + 1)) = nI (op l'.length)) = (op (l'.length + 1) = op l'.length) := propext (nI_eq (by omega) (by have := ho l'.length (by omega); omega))
      simp only [q1, q2]
    rw [b_an _ ho1 _ f1] at key
    have lt1 : op (l'.length + 1) &&& (fo u ^^^ 63) < 64 := b_an_lt ho1
    have tb1 : ∀ t, t < d.1 → (op (l'.length + 1) &&& (fo u ^^^ 63)).testBit t = ((op (l'.length + 1)).testBit t && !cf t u) := fun t ht => by rw [b_an_tb (by omega), f2 t ht]
    cases hfr : fr with
    | false =>
      rw [if_pos hfr] at key
      exact ⟨_, lt1, key, fun t ht => by rw [tb1 t ht]; rw [hfr] at hs; rw [hs t]; simp⟩
    | true =>
      rw [if_neg (by rw [hfr]; decide)] at key
      rw [hfr] at hs
      by_cases hq : op (l'.length + 1) = op l'.length
      · rw [if_pos hq] at key
        obtain ⟨k1, k2, k3⟩ := b_hi _ lt1 u (by omega)
        rw [k1] at key
        refine ⟨_, k2, key, fun t ht => ?_⟩
        rw [k3 t (by omega), tb1 t ht, hs t, decide_eq_true hq]
        simp [Bool.and_assoc]
      · rw [if_neg hq] at key
        refine ⟨_, lt1, key, fun t ht => ?_⟩
        rw [tb1 t ht, hs t, decide_eq_false hq]
        simp
end CF
