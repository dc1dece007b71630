/-! copies -/
theorem cp_y {V : xV} {x y n k : Nat} (h : k < n) : x_cpV V x y n y k = V x k := by simp [x_cpV, va_cpy, h]
theorem cp_ne {V : xV} {x y n q : Nat} (h : q ≠ y) : x_cpV V x y n q = V q := by simp [x_cpV, h]
theorem cW4_ne {V : xV} {w o a : Nat} (h : a ≠ w + 1 ∧ a ≠ w + 2 ∧ a ≠ w + 3 ∧ a ≠ w + 4) : x_cW4 V w o a = V a := by
  unfold x_cW4
  rw [cp_ne h.2.2.2, cp_ne h.2.2.1, cp_ne h.2.1, cp_ne h.1]
theorem xcW_ne {V : xV} {w o a : Nat} (h : a < w ∨ w + 4 < a) : x_cW V w o a = V a := by
  unfold x_cW
  rw [up_a (by omega), cW4_ne (by omega)]
theorem xcW_is {d : sT} (hd : okT d) {V : xV} {w o : Nat} (hne : o + 4 < w ∨ w + 4 < o) {u : sW} (h : cW d V o u) : cW d (x_cW V w o) w u := by
  obtain ⟨h1, h2, h3⟩ := h
  refine ⟨fun s b hs hb => ?_, fun t ht => ⟨?_, ?_, ?_⟩, ?_⟩
  · obtain ⟨l1, l2⟩ := slot_lt hd hs hb
    unfold x_cW x_cW4
    rw [up_a (by omega), cp_ne (by omega), cp_ne (by omega), cp_ne (by omega), cp_y (by omega)]
    exact h1 s b hs hb
  · unfold x_cW x_cW4
    rw [up_a (by omega), cp_ne (by omega), cp_ne (by omega), cp_y (by omega), cp_ne (by omega)]
    exact (h2 t ht).1
  · unfold x_cW x_cW4
    rw [up_a (by omega), cp_ne (by omega), cp_y (by omega), cp_ne (by omega), cp_ne (by omega)]
    exact (h2 t ht).2.1
  · unfold x_cW x_cW4
    rw [up_a (by omega), cp_y (by omega), cp_ne (by omega), cp_ne (by omega), cp_ne (by omega)]
    exact (h2 t ht).2.2
  · unfold x_cW
    rw [up_eq, cW4_ne (by omega)]
    exact h3
/-! the class remembers -/
theorem c_rem {d : sT} {V : xV} {w : sW} {hi : List sW} (hd : okT d) (hw : cW d V 5 w) (hh : cHi d V hi) (hl : hi.length ≤ 10) : ∃ V', f_X6_rememberWishes V = some V' ∧ cHi d V' ((w :: hi).take 10) ∧ V' 73 5 = -5 ∧ ∀ a, (a < 19 ∨ 70 < a) → a ≠ 73 → V' a = V a := by
  obtain ⟨h1, x, hx, h2, h3⟩ := hh
  have e19 : x_cW V (21 + 5 * x) 5 19 = V 19 := xcW_ne (by omega)
  have e1 : ((nI x + 1) - (nI x + 1) / (10 : Int32) * (10 : Int32)) = nI ((x + 1) % 10) := by
    rw [nI_1, show (10 : Int32) = nI 10 from rfl, pk_rem (by omega) (by decide) (by decide)]
  have e2 : (if (10 : Int32) < (nI hi.length + 1) then (10 : Int32) else (nI hi.length + 1)) = nI ((w :: hi).take 10).length := by
    rw [nI_1]
    by_cases h10 : hi.length = 10
    · rw [h10, if_pos (by decide)]
      rw [List.length_take, List.length_cons, h10]
      rfl
    · rw [if_neg (by rw [i_lt, i_n (by omega), show (10 : Int32).toInt = 10 from rfl]; omega), List.length_take, List.length_cons, Nat.min_eq_right (by omega)]
  refine ⟨x_up (x_up (x_up (x_cW V (21 + 5 * x) 5) 19 1 (nI ((x + 1) % 10))) 19 2 (nI ((w :: hi).take 10).length)) 73 5 (-5), ?_, ?_, up_eq, fun a h0 h73 => ?_⟩
  · unfold f_X6_rememberWishes f_X0_remember x_tkW
    rw [h2, if_pos (x_inN hx (by decide)), i_c (by omega), x_b1_some, e19, h2, h1, e1, e2]
    rfl
  · refine ⟨by rw [up_a (by decide), up_eq], (x + 1) % 10, Nat.mod_lt _ (by decide), by rw [up_a (by decide), up_k (by decide), up_eq], fun i u hu => ?_⟩
    have hm : (x + 1) % 10 < 10 := Nat.mod_lt _ (by decide)
    have hil : i < 10 := by
      have := (List.getElem?_eq_some_iff.mp hu).1
      rw [List.length_take] at this
      omega
    rw [List.getElem?_take_of_lt hil] at hu
    have hup : ∀ b, b ≠ 19 → b ≠ 73 → x_up (x_up (x_up (x_cW V (21 + 5 * x) 5) 19 1 (nI ((x + 1) % 10))) 19 2 (nI ((w :: hi).take 10).length)) 73 5 (-5) b = x_cW V (21 + 5 * x) 5 b := fun b h1 h2 => by rw [up_a h2, up_a h1, up_a h1]
    cases i with
    | zero =>
      simp only [List.getElem?_cons_zero, Option.some.injEq] at hu
      subst hu
      have e : ((x + 1) % 10 + 9 - 0) % 10 = x := by omega
      rw [e]
      exact (xcW_is hd (by omega) hw).cg (fun b _ _ => hup b (by omega) (by omega))
    | succ i =>
      simp only [List.getElem?_cons_succ] at hu
      have e : ((x + 1) % 10 + 9 - (i + 1)) % 10 = (x + 9 - i) % 10 := by omega
      rw [e]
      have hne : (x + 9 - i) % 10 ≠ x := by omega
      have hlt : (x + 9 - i) % 10 < 10 := Nat.mod_lt _ (by decide)
      exact (h3 i u hu).cg (fun b _ _ => by rw [hup b (by omega) (by omega), xcW_ne (by omega)])
  · rw [up_a h73, up_a (by omega), up_a (by omega), xcW_ne (by omega)]
/-! the reference's block copies -/
def bcp (V : xV) (a so b o j N : Nat) : xV := fun q => if q = b then (fun i => if o + j ≤ i ∧ i < o + N then V a (so + (i - o)) else V b i) else V q
theorem bcp_end {V : xV} {a so b o N : Nat} : bcp V a so b o N N = V := by
  funext q
  by_cases h : q = b
  · subst h
    funext i
    simp only [bcp, if_true]
    rw [if_neg (by omega)]
  · simp [bcp, h]
theorem bcp_step {V : xV} {a so b o j N : Nat} (hab : a ≠ b ∨ o ≤ so) (hj : j < N) : bcp (x_up V b (o + j) (V a (so + j))) a so b o (j + 1) N = bcp V a so b o j N := by
  funext q
  by_cases h : q = b
  · subst h
    funext i
    simp only [bcp, if_true]
    by_cases h1 : o + (j + 1) ≤ i ∧ i < o + N
    · rw [if_pos h1, if_pos (by omega)]
      by_cases ha : a = q
      · subst ha
        exact up_k (by omega)
      · rw [up_a ha]
    · rw [if_neg h1]
      by_cases h2 : i = o + j
      · subst h2
        rw [up_eq, if_pos (by omega), show o + j - o = j by omega]
      · rw [up_k h2, if_neg (by omega)]
  · simp only [bcp, h, if_false]
    exact up_a h
theorem bcp_ne {V : xV} {a so b o j N q : Nat} (h : q ≠ b) : bcp V a so b o j N q = V q := by simp [bcp, h]
theorem bcp_in {V : xV} {a so b o N k : Nat} (h : k < N) : bcp V a so b o 0 N b (o + k) = V a (so + k) := by
  simp only [bcp, if_true]
  rw [if_pos (by omega), show o + k - o = k by omega]
theorem bcp_out {V : xV} {a so b o N i : Nat} (h : i < o ∨ o + N ≤ i) : bcp V a so b o 0 N b i = V b i := by
  simp only [bcp, if_true]
  rw [if_neg (by omega)]
theorem f_X7_notes_L47_eq {u : Nat} (hu : u ≤ 9) {k : Int32 → xV → Option (xV)} : ∀ (m j n : Nat) (V : xV), m + j = 27 → m < n → V 96 23 = nI u → f_X7_notes_L47 n k (nI j) V = k (nI 27) (bcp V 103 0 104 (27 * u) j 27) := by
  intro m
  induction m with
  | zero =>
    intro j n V hj hn h23
    obtain ⟨n, rfl⟩ : ∃ q, n = q + 1 := ⟨n - 1, by omega⟩
    obtain rfl : j = 27 := by omega
    rw [f_X7_notes_L47, if_pos (by decide), bcp_end]
  | succ m ih =>
    intro j n V hj hn h23
    obtain ⟨n, rfl⟩ : ∃ q, n = q + 1 := ⟨n - 1, by omega⟩
    rw [f_X7_notes_L47, if_neg (by rw [i_le, i_n (by omega), show (27 : Int32).toInt = 27 from rfl]; omega)]
    rw [if_pos (x_inN (by omega) (by decide)), h23, show (27 : Int32) * nI u + nI j = nI (27 * u + j) by rw [show (27 : Int32) = nI 27 from rfl, pk_mul, nI_add], if_pos (x_inN (by omega) (by decide)), i_c (by omega), i_c (by omega), show V 103 j = V 103 (0 + j) by rw [Nat.zero_add]]
    rw [nI_1, ih (j + 1) n _ (by omega) (by omega) (by rw [up_a (by decide)]; exact h23), bcp_step (by omega) (by omega)]
theorem f_X7_notes_L11_eq {k : Int32 → xV → Option (xV)} : ∀ (m j n : Nat) (V : xV), m + j = 243 → m < n → f_X7_notes_L11 n k (nI j) V = k (nI 243) (bcp V 104 27 104 0 j 243) := by
  intro m
  induction m with
  | zero =>
    intro j n V hj hn 
    obtain ⟨n, rfl⟩ : ∃ q, n = q + 1 := ⟨n - 1, by omega⟩
    obtain rfl : j = 243 := by omega
    rw [f_X7_notes_L11, if_pos (by decide), bcp_end]
  | succ m ih =>
    intro j n V hj hn 
    obtain ⟨n, rfl⟩ : ∃ q, n = q + 1 := ⟨n - 1, by omega⟩
    rw [f_X7_notes_L11, if_neg (by rw [i_le, i_n (by omega), show (243 : Int32).toInt = 243 from rfl]; omega)]
    rw [show nI j + 27 = nI (27 + j) by rw [show (27 : Int32) = nI 27 from rfl, nI_add, Nat.add_comm], if_pos (x_inN (by omega) (by decide)), if_pos (x_inN (by omega) (by decide)), i_c (by omega), i_c (by omega), show x_up V 104 j (V 104 (27 + j)) = x_up V 104 (0 + j) (V 104 (27 + j)) by rw [Nat.zero_add]]
    rw [nI_1, ih (j + 1) n _ (by omega) (by omega), bcp_step (by omega) (by omega)]
theorem f_X7_undo_L27_eq {u : Nat} (hu : u ≤ 9) {k : Int32 → xV → Option (Int32 × xV)} : ∀ (m j n : Nat) (V : xV), m + j = 27 → m < n → V 96 23 = nI u → f_X7_undo_L27 n k (nI j) V = k (nI 27) (bcp V 104 (27 * u) 103 0 j 27) := by
  intro m
  induction m with
  | zero =>
    intro j n V hj hn h23
    obtain ⟨n, rfl⟩ : ∃ q, n = q + 1 := ⟨n - 1, by omega⟩
    obtain rfl : j = 27 := by omega
    rw [f_X7_undo_L27, if_pos (by decide), bcp_end]
  | succ m ih =>
    intro j n V hj hn h23
    obtain ⟨n, rfl⟩ : ∃ q, n = q + 1 := ⟨n - 1, by omega⟩
    rw [f_X7_undo_L27, if_neg (by rw [i_le, i_n (by omega), show (27 : Int32).toInt = 27 from rfl]; omega)]
    rw [h23, show (27 : Int32) * nI u + nI j = nI (27 * u + j) by rw [show (27 : Int32) = nI 27 from rfl, pk_mul, nI_add], if_pos (x_inN (by omega) (by decide)), if_pos (x_inN (by omega) (by decide)), i_c (by omega), i_c (by omega), show x_up V 103 j (V 104 (27 * u + j)) = x_up V 103 (0 + j) (V 104 (27 * u + j)) by rw [Nat.zero_add]]
    rw [nI_1, ih (j + 1) n _ (by omega) (by omega) (by rw [up_a (by decide)]; exact h23), bcp_step (by omega) (by omega)]
theorem f_X7_keep_L18_eq {u : Nat} (hu : u ≤ 1) {k : Int32 → xV → Option (Int32 × xV)} : ∀ (m j n : Nat) (V : xV), m + j = 27 → m < n → f_X7_keep_L18 (nI u) n k (nI j) V = k (nI 27) (bcp V 103 0 105 (27 * u) j 27) := by
  intro m
  induction m with
  | zero =>
    intro j n V hj hn 
    obtain ⟨n, rfl⟩ : ∃ q, n = q + 1 := ⟨n - 1, by omega⟩
    obtain rfl : j = 27 := by omega
    rw [f_X7_keep_L18, if_pos (by decide), bcp_end]
  | succ m ih =>
    intro j n V hj hn 
    obtain ⟨n, rfl⟩ : ∃ q, n = q + 1 := ⟨n - 1, by omega⟩
    rw [f_X7_keep_L18, if_neg (by rw [i_le, i_n (by omega), show (27 : Int32).toInt = 27 from rfl]; omega)]
    rw [if_pos (x_inN (by omega) (by decide)), show (27 : Int32) * nI u + nI j = nI (27 * u + j) by rw [show (27 : Int32) = nI 27 from rfl, pk_mul, nI_add], if_pos (x_inN (by omega) (by decide)), i_c (by omega), i_c (by omega), show V 103 j = V 103 (0 + j) by rw [Nat.zero_add]]
    rw [nI_1, ih (j + 1) n _ (by omega) (by omega), bcp_step (by omega) (by omega)]
theorem f_X7_back_L30_eq {u : Nat} (hu : u ≤ 1) {k : Int32 → xV → Option (Int32 × xV)} : ∀ (m j n : Nat) (V : xV), m + j = 27 → m < n → f_X7_back_L30 (nI u) n k (nI j) V = k (nI 27) (bcp V 105 (27 * u) 103 0 j 27) := by
  intro m
  induction m with
  | zero =>
    intro j n V hj hn 
    obtain ⟨n, rfl⟩ : ∃ q, n = q + 1 := ⟨n - 1, by omega⟩
    obtain rfl : j = 27 := by omega
    rw [f_X7_back_L30, if_pos (by decide), bcp_end]
  | succ m ih =>
    intro j n V hj hn 
    obtain ⟨n, rfl⟩ : ∃ q, n = q + 1 := ⟨n - 1, by omega⟩
    rw [f_X7_back_L30, if_neg (by rw [i_le, i_n (by omega), show (27 : Int32).toInt = 27 from rfl]; omega)]
    rw [show (27 : Int32) * nI u + nI j = nI (27 * u + j) by rw [show (27 : Int32) = nI 27 from rfl, pk_mul, nI_add], if_pos (x_inN (by omega) (by decide)), if_pos (x_inN (by omega) (by decide)), i_c (by omega), i_c (by omega), show x_up V 103 j (V 105 (27 * u + j)) = x_up V 103 (0 + j) (V 105 (27 * u + j)) by rw [Nat.zero_add]]
    rw [nI_1, ih (j + 1) n _ (by omega) (by omega), bcp_step (by omega) (by omega)]
theorem m_notes {d : sT} {V : xV} {w : sW} {hi : List sW} (hd : okT d) (hw : mW d (V 103) 0 w) (hh : mHi d V hi) (hl : hi.length ≤ 10) : ∃ V', f_X7_notes V = some V' ∧ mHi d V' ((w :: hi).take 10) ∧ (∀ k, k ≠ 23 → V' 96 k = V 96 k) ∧ ∀ a, a ≠ 96 → a ≠ 104 → V' a = V a := by
  obtain ⟨h1, h2⟩ := hh
  by_cases h10 : hi.length = 10
  · rw [h10] at h1
    refine ⟨x_up (bcp (x_up (bcp V 104 27 104 0 0 243) 96 23 9) 103 0 104 (27 * 9) 0 27) 96 23 (nI 10), ?_, ⟨?_, fun i u hu => ?_⟩, fun k hk => ?_, fun a h96 h104 => ?_⟩
    · unfold f_X7_notes
      rw [h1, if_pos (by decide), show (0 : Int32) = nI 0 from rfl, f_X7_notes_L11_eq 243 0 300 V rfl (by decide)]
      rw [f_X7_notes_L47_eq (u := 9) (by decide) 27 0 300 (x_up (bcp V 104 27 104 0 0 243) 96 23 9) rfl (by decide) (show x_up (bcp V 104 27 104 0 0 243) 96 23 9 96 23 = nI 9 from up_eq)]
      rw [bcp_ne (by decide), up_eq]
      rfl
    · rw [up_eq, List.length_take, List.length_cons, h10]; rfl
    · have hil : i < 10 := by
        have := (List.getElem?_eq_some_iff.mp hu).1
        rw [List.length_take] at this
        omega
      rw [List.getElem?_take_of_lt hil] at hu
      rw [up_a (by decide), List.length_take, List.length_cons, h10, show min 10 (10 + 1) - 1 - i = 9 - i from rfl]
      cases i with
      | zero =>
        simp only [List.getElem?_cons_zero, Option.some.injEq] at hu
        subst hu
        obtain ⟨g1, g2, g3⟩ := hw
        obtain ⟨-, -, d1, -, d2, -⟩ := hd
        have e : ∀ k, k < 27 → bcp (x_up (bcp V 104 27 104 0 0 243) 96 23 9) 103 0 104 (27 * 9) 0 27 104 (27 * (9 - 0) + k) = V 103 (0 + k) := fun k hk => by
          rw [show 27 * (9 - 0) + k = 27 * 9 + k from rfl, bcp_in hk, up_a (by decide), bcp_ne (by decide)]
        refine ⟨fun s b hs hb => ?_, fun t ht => ⟨?_, ?_, ?_⟩, ?_⟩
        · rw [e _ (by omega)]; exact g1 s b hs hb
        · rw [e _ (by omega)]; exact (g2 t ht).1
        · rw [e _ (by omega)]; exact (g2 t ht).2.1
        · rw [e _ (by omega)]; exact (g2 t ht).2.2
        · rw [e _ (by omega)]; exact g3
      | succ i =>
        simp only [List.getElem?_cons_succ] at hu
        obtain ⟨g1, g2, g3⟩ := h2 i u hu
        rw [h10] at g1 g2 g3
        obtain ⟨-, -, d1, -, d2, -⟩ := hd
        have e : ∀ k, k < 27 → bcp (x_up (bcp V 104 27 104 0 0 243) 96 23 9) 103 0 104 (27 * 9) 0 27 104 (27 * (9 - (i + 1)) + k) = V 104 (27 * (10 - 1 - i) + k) := fun k hk => by
          rw [bcp_out (by omega), up_a (by decide)]
          have := bcp_in (V := V) (a := 104) (so := 27) (b := 104) (o := 0) (N := 243) (k := 27 * (9 - (i + 1)) + k) (by omega)
          rw [Nat.zero_add] at this
          rw [this]
          congr 1
          omega
        refine ⟨fun s b hs hb => ?_, fun t ht => ⟨?_, ?_, ?_⟩, ?_⟩
        · rw [e _ (by omega)]; exact g1 s b hs hb
        · rw [e _ (by omega)]; exact (g2 t ht).1
        · rw [e _ (by omega)]; exact (g2 t ht).2.1
        · rw [e _ (by omega)]; exact (g2 t ht).2.2
        · rw [e _ (by omega)]; exact g3
    · rw [up_k hk, bcp_ne (by decide), up_k hk, bcp_ne (by decide)]
    · rw [up_a h96, bcp_ne h104, up_a h96, bcp_ne h104]
  · refine ⟨x_up (bcp V 103 0 104 (27 * hi.length) 0 27) 96 23 (nI (hi.length + 1)), ?_, ⟨?_, fun i u hu => ?_⟩, fun k hk => ?_, fun a h96 h104 => ?_⟩
    · unfold f_X7_notes
      rw [h1, if_neg (by rw [i_eq, i_n (by omega), show (10 : Int32).toInt = 10 from rfl]; omega), show (0 : Int32) = nI 0 from rfl, f_X7_notes_L47_eq (u := hi.length) (by omega) 27 0 300 V rfl (by decide) h1]
      rw [bcp_ne (by decide), h1, nI_1]
    · rw [up_eq, List.length_take, List.length_cons, Nat.min_eq_right (by omega)]
    · have hil : i < 10 := by
        have := (List.getElem?_eq_some_iff.mp hu).1
        rw [List.length_take] at this
        omega
      rw [List.getElem?_take_of_lt hil] at hu
      rw [up_a (by decide), List.length_take, List.length_cons, Nat.min_eq_right (by omega)]
      have hil2 : i < hi.length + 1 := by
        have := (List.getElem?_eq_some_iff.mp hu).1
        simpa using this
      cases i with
      | zero =>
        simp only [List.getElem?_cons_zero, Option.some.injEq] at hu
        subst hu
        obtain ⟨g1, g2, g3⟩ := hw
        obtain ⟨-, -, d1, -, d2, -⟩ := hd
        have e : ∀ k, k < 27 → bcp V 103 0 104 (27 * hi.length) 0 27 104 (27 * (hi.length + 1 - 1 - 0) + k) = V 103 (0 + k) := fun k hk => by
          rw [show hi.length + 1 - 1 - 0 = hi.length by omega, bcp_in hk]
        refine ⟨fun s b hs hb => ?_, fun t ht => ⟨?_, ?_, ?_⟩, ?_⟩
        · rw [e _ (by omega)]; exact g1 s b hs hb
        · rw [e _ (by omega)]; exact (g2 t ht).1
        · rw [e _ (by omega)]; exact (g2 t ht).2.1
        · rw [e _ (by omega)]; exact (g2 t ht).2.2
        · rw [e _ (by omega)]; exact g3
      | succ i =>
        simp only [List.getElem?_cons_succ] at hu
        have g := h2 i u hu
        rw [show hi.length + 1 - 1 - (i + 1) = hi.length - 1 - i by omega]
        exact g.cg hd (fun k hk => bcp_out (by omega))
    · rw [up_k hk, bcp_ne (by decide)]
    · rw [up_a h96, bcp_ne h104]
