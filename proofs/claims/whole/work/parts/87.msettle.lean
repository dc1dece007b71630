/-! the reference begins, and settles -/
def v_b47 (j : Nat) : Int32 := if 20 ≤ j then (if 26 ≤ j then 15 else 0) else -9
section MB
theorem m_b27 {k : Int32 → xV → Option xV} : ∀ (m i n : Nat) (V : xV), i + m = 4 → m < n → ∃ V', f_X7_begins_L27 n k (nI i) V = k (nI 4) V' ∧ (∀ a, a ≠ 100 → V' a = V a) ∧ (∀ j, j < i → V' 100 j = V 100 j) ∧ ∀ j, i ≤ j → j < 4 → V' 100 j = 5 := by
  intro m
  induction m with
  | zero =>
    intro i n V hm hn
    obtain ⟨n, rfl⟩ : ∃ q, n = q + 1 := ⟨n - 1, by omega⟩
    obtain rfl : i = 4 := by omega
    refine ⟨V, ?_, fun _ _ => rfl, fun _ _ => rfl, fun j h1 h2 => by omega⟩
    rw [f_X7_begins_L27, if_pos (by decide)]
  | succ m ih =>
    intro i n V hm hn
    obtain ⟨n, rfl⟩ : ∃ q, n = q + 1 := ⟨n - 1, by omega⟩
    obtain ⟨V', e, f1, f2, f3⟩ := ih (i + 1) n (x_up V 100 i (5)) (by omega) (by omega)
    refine ⟨V', ?_, fun a ha => by rw [f1 a ha, up_a ha], fun j hj => by rw [f2 j (by omega), up_k (by omega)], fun j h1 h2 => ?_⟩
    · rw [← e, f_X7_begins_L27, if_neg (by rw [i_le, i_n (by omega), show (4 : Int32).toInt = 4 from rfl]; omega)]
      rw [if_pos (x_inN (by omega) (by decide)), i_c (by omega), nI_1]
    · by_cases c : j = i
      · subst c
        rw [f2 j (by omega), up_eq]
      · rw [f3 j (by omega) h2]
theorem m_b47 {k : Int32 → xV → Option xV} : ∀ (m i n : Nat) (V : xV), i + m = 27 → m < n → ∃ V', f_X7_begins_L47 n k (nI i) V = k (nI 27) V' ∧ (∀ a, a ≠ 102 → V' a = V a) ∧ (∀ j, j < i → V' 102 j = V 102 j) ∧ ∀ j, i ≤ j → j < 27 → V' 102 j = v_b47 j := by
  intro m
  induction m with
  | zero =>
    intro i n V hm hn
    obtain ⟨n, rfl⟩ : ∃ q, n = q + 1 := ⟨n - 1, by omega⟩
    obtain rfl : i = 27 := by omega
    refine ⟨V, ?_, fun _ _ => rfl, fun _ _ => rfl, fun j h1 h2 => by omega⟩
    rw [f_X7_begins_L47, if_pos (by decide)]
  | succ m ih =>
    intro i n V hm hn
    obtain ⟨n, rfl⟩ : ∃ q, n = q + 1 := ⟨n - 1, by omega⟩
    obtain ⟨V', e, f1, f2, f3⟩ := ih (i + 1) n (x_up V 102 i (v_b47 i)) (by omega) (by omega)
    refine ⟨V', ?_, fun a ha => by rw [f1 a ha, up_a ha], fun j hj => by rw [f2 j (by omega), up_k (by omega)], fun j h1 h2 => ?_⟩
    · rw [← e, f_X7_begins_L47, if_neg (by rw [i_le, i_n (by omega), show (27 : Int32).toInt = 27 from rfl]; omega)]
      unfold v_b47
      by_cases c20 : 20 ≤ i
      · rw [if_pos (by rw [i_le, i_n (by omega), show (20 : Int32).toInt = 20 from rfl]; omega), if_pos c20]
        by_cases c26 : 26 ≤ i
        · rw [if_pos (by rw [i_le, i_n (by omega), show (26 : Int32).toInt = 26 from rfl]; omega), if_pos c26, if_pos (x_inN (by omega) (by decide)), i_c (by omega), nI_1]
        · rw [if_neg (by rw [i_le, i_n (by omega), show (26 : Int32).toInt = 26 from rfl]; omega), if_neg c26, if_pos (x_inN (by omega) (by decide)), i_c (by omega), nI_1]
      · rw [if_neg (by rw [i_le, i_n (by omega), show (20 : Int32).toInt = 20 from rfl]; omega), if_neg c20, if_pos (x_inN (by omega) (by decide)), i_c (by omega), nI_1]
    · by_cases c : j = i
      · subst c
        rw [f2 j (by omega), up_eq]
      · rw [f3 j (by omega) h2]
theorem m_s26 {k : Int32 → xV → Option xV} : ∀ (m i n : Nat) (V : xV), i + m = 4 → m < n → ∃ V', f_X7_settles_L26 n k (nI i) V = k (nI 4) V' ∧ (∀ a, a ≠ 98 → V' a = V a) ∧ (∀ j, j < i → V' 98 j = V 98 j) ∧ ∀ j, i ≤ j → j < 4 → V' 98 j = V 100 j := by
  intro m
  induction m with
  | zero =>
    intro i n V hm hn
    obtain ⟨n, rfl⟩ : ∃ q, n = q + 1 := ⟨n - 1, by omega⟩
    obtain rfl : i = 4 := by omega
    refine ⟨V, ?_, fun _ _ => rfl, fun _ _ => rfl, fun j h1 h2 => by omega⟩
    rw [f_X7_settles_L26, if_pos (by decide)]
  | succ m ih =>
    intro i n V hm hn
    obtain ⟨n, rfl⟩ : ∃ q, n = q + 1 := ⟨n - 1, by omega⟩
    obtain ⟨V', e, f1, f2, f3⟩ := ih (i + 1) n (x_up V 98 i (V 100 i)) (by omega) (by omega)
    refine ⟨V', ?_, fun a ha => by rw [f1 a ha, up_a ha], fun j hj => by rw [f2 j (by omega), up_k (by omega)], fun j h1 h2 => ?_⟩
    · rw [← e, f_X7_settles_L26, if_neg (by rw [i_le, i_n (by omega), show (4 : Int32).toInt = 4 from rfl]; omega)]
      rw [if_pos (x_inN (by omega) (by decide)), i_c (by omega), nI_1]
    · by_cases c : j = i
      · subst c
        rw [f2 j (by omega), up_eq]
      · rw [f3 j (by omega) h2, up_a (by decide)]
theorem m_s51 {k : Int32 → xV → Option xV} : ∀ (m i n : Nat) (V : xV), i + m = 6 → m < n → ∃ V', f_X7_settles_L51 n k (nI i) V = k (nI 6) V' ∧ (∀ a, a ≠ 99 → V' a = V a) ∧ (∀ j, j < i → V' 99 j = V 99 j) ∧ ∀ j, i ≤ j → j < 6 → V' 99 j = V 101 j := by
  intro m
  induction m with
  | zero =>
    intro i n V hm hn
    obtain ⟨n, rfl⟩ : ∃ q, n = q + 1 := ⟨n - 1, by omega⟩
    obtain rfl : i = 6 := by omega
    refine ⟨V, ?_, fun _ _ => rfl, fun _ _ => rfl, fun j h1 h2 => by omega⟩
    rw [f_X7_settles_L51, if_pos (by decide)]
  | succ m ih =>
    intro i n V hm hn
    obtain ⟨n, rfl⟩ : ∃ q, n = q + 1 := ⟨n - 1, by omega⟩
    obtain ⟨V', e, f1, f2, f3⟩ := ih (i + 1) n (x_up V 99 i (V 101 i)) (by omega) (by omega)
    refine ⟨V', ?_, fun a ha => by rw [f1 a ha, up_a ha], fun j hj => by rw [f2 j (by omega), up_k (by omega)], fun j h1 h2 => ?_⟩
    · rw [← e, f_X7_settles_L51, if_neg (by rw [i_le, i_n (by omega), show (6 : Int32).toInt = 6 from rfl]; omega)]
      rw [if_pos (x_inN (by omega) (by decide)), i_c (by omega), nI_1]
    · by_cases c : j = i
      · subst c
        rw [f2 j (by omega), up_eq]
      · rw [f3 j (by omega) h2, up_a (by decide)]
theorem m_s77 {k : Int32 → xV → Option xV} : ∀ (m i n : Nat) (V : xV), i + m = 27 → m < n → ∃ V', f_X7_settles_L77 n k (nI i) V = k (nI 27) V' ∧ (∀ a, a ≠ 103 → V' a = V a) ∧ (∀ j, j < i → V' 103 j = V 103 j) ∧ ∀ j, i ≤ j → j < 27 → V' 103 j = V 102 j := by
  intro m
  induction m with
  | zero =>
    intro i n V hm hn
    obtain ⟨n, rfl⟩ : ∃ q, n = q + 1 := ⟨n - 1, by omega⟩
    obtain rfl : i = 27 := by omega
    refine ⟨V, ?_, fun _ _ => rfl, fun _ _ => rfl, fun j h1 h2 => by omega⟩
    rw [f_X7_settles_L77, if_pos (by decide)]
  | succ m ih =>
    intro i n V hm hn
    obtain ⟨n, rfl⟩ : ∃ q, n = q + 1 := ⟨n - 1, by omega⟩
    obtain ⟨V', e, f1, f2, f3⟩ := ih (i + 1) n (x_up V 103 i (V 102 i)) (by omega) (by omega)
    refine ⟨V', ?_, fun a ha => by rw [f1 a ha, up_a ha], fun j hj => by rw [f2 j (by omega), up_k (by omega)], fun j h1 h2 => ?_⟩
    · rw [← e, f_X7_settles_L77, if_neg (by rw [i_le, i_n (by omega), show (27 : Int32).toInt = 27 from rfl]; omega)]
      rw [if_pos (x_inN (by omega) (by decide)), i_c (by omega), nI_1]
    · by_cases c : j = i
      · subst c
        rw [f2 j (by omega), up_eq]
      · rw [f3 j (by omega) h2, up_a (by decide)]
variable {V : xV}
theorem m_begins : ∃ V', f_X7_begins V = some V' ∧ (∀ a, a ≠ 96 → a ≠ 100 → a ≠ 102 → V' a = V a) ∧ (∀ j, j < 13 ∨ 17 < j → V' 96 j = V 96 j) ∧ mRs V' r0 := by
  unfold f_X7_begins
  obtain ⟨V1, e1, f1, -, f3⟩ := m_b27 (k := fun _ V4 => f_X7_begins_L47 300 (fun _ V12 => some V12) (0 : Int32) V4) 4 0 300 (x_up (x_up (x_up (x_up (x_up V 96 13 (0 : Int32)) 96 14 (4 : Int32)) 96 15 (2 : Int32)) 96 16 (0 : Int32)) 96 17 (0 : Int32)) rfl (by decide)
  obtain ⟨V2, e2, g1, -, g3⟩ := m_b47 (k := fun _ V12 => some V12) 27 0 300 V1 rfl (by decide)
  refine ⟨V2, e1.trans e2, fun a h1 h2 h3 => by rw [g1 a h3, f1 a h2, up_a h1, up_a h1, up_a h1, up_a h1, up_a h1], fun j hj => by rw [g1 96 (by decide), f1 96 (by decide), up_k (by omega), up_k (by omega), up_k (by omega), up_k (by omega), up_k (by omega)], ?_⟩
  have e96 : V2 96 = x_up (x_up (x_up (x_up (x_up V 96 13 (0 : Int32)) 96 14 (4 : Int32)) 96 15 (2 : Int32)) 96 16 (0 : Int32)) 96 17 (0 : Int32) 96 := by rw [g1 96 (by decide), f1 96 (by decide)]
  refine ⟨?_, ?_, ?_, ?_, ?_, fun t ht => absurd ht (Nat.not_lt_zero t), fun s hs => ?_, fun j hj => ?_, fun t ht => ⟨?_, ?_, ?_⟩, ?_⟩
  · rw [e96, up_k (by decide), up_k (by decide), up_k (by decide), up_k (by decide), up_eq]; rfl
  · rw [e96, up_k (by decide), up_k (by decide), up_k (by decide), up_eq]; rfl
  · rw [e96, up_k (by decide), up_k (by decide), up_eq]; rfl
  · rw [e96, up_k (by decide), up_eq]; rfl
  · rw [e96, up_eq]; rfl
  · have hs : s < 4 := hs
    rw [g1 100 (by decide), f3 s (Nat.zero_le _) hs]; rfl
  · rw [g3 j (Nat.zero_le _) (by omega), v_b47, if_neg (by omega)]
  · rw [g3 _ (Nat.zero_le _) (by omega), v_b47, if_neg (by omega)]; rfl
  · rw [g3 _ (Nat.zero_le _) (by omega), v_b47, if_neg (by omega)]; rfl
  · rw [g3 _ (Nat.zero_le _) (by omega), v_b47, if_pos (by omega), if_neg (by omega)]; rfl
  · rw [g3 _ (Nat.zero_le _) (by omega), v_b47, if_pos (by omega), if_pos (by omega)]; rfl
theorem m_settles {r : rS} (hr : mRs V r) (ho : okR r) : ∃ V', f_X7_settles V = some V' ∧ Mdl ([], r.1, r.2.1, [], (none, none), []) V' ∧ frM V V' := by
  obtain ⟨r1, r2, r3, r4, r5, r6, r7, r8, r9, r10⟩ := hr
  obtain ⟨o1, o2, o3, o4⟩ := ho
  have hT := o1.1
  have hS := o1.2.2.1
  unfold f_X7_settles
  obtain ⟨V1, e1, f1, -, f3⟩ := m_s26 (k := fun _ V4 => f_X7_settles_L51 300 (fun _ V8 => f_X7_settles_L77 300 (fun _ V12 => some (x_up (x_up (x_up (x_up (x_up V12 96 2 (0 : Int32)) 96 27 (0 : Int32)) 96 23 (0 : Int32)) 106 0 (0 : Int32)) 106 1 (0 : Int32))) (0 : Int32) V8) (0 : Int32) V4) 4 0 300 (x_up (x_up (x_up V 96 8 (V 96 13)) 96 9 (V 96 14)) 96 10 (V 96 15)) rfl (by decide)
  obtain ⟨V2, e2, g1, -, g3⟩ := m_s51 (k := fun _ V8 => f_X7_settles_L77 300 (fun _ V12 => some (x_up (x_up (x_up (x_up (x_up V12 96 2 (0 : Int32)) 96 27 (0 : Int32)) 96 23 (0 : Int32)) 106 0 (0 : Int32)) 106 1 (0 : Int32))) (0 : Int32) V8) 6 0 300 V1 rfl (by decide)
  obtain ⟨V3, e3, h1, -, h3⟩ := m_s77 (k := fun _ V12 => some (x_up (x_up (x_up (x_up (x_up V12 96 2 (0 : Int32)) 96 27 (0 : Int32)) 96 23 (0 : Int32)) 106 0 (0 : Int32)) 106 1 (0 : Int32))) 27 0 300 V2 rfl (by decide)
  refine ⟨_, e1.trans (e2.trans e3), ?_, fun a ha => by rw [up_a (by omega), up_a (by omega), up_a (by omega), up_a (by omega), up_a (by omega), h1 a (by omega), g1 a (by omega), f1 a (by omega), up_a (by omega), up_a (by omega), up_a (by omega)]⟩
  have e96 : V3 96 = x_up (x_up (x_up V 96 8 (V 96 13)) 96 9 (V 96 14)) 96 10 (V 96 15) 96 := by rw [h1 96 (by decide), g1 96 (by decide), f1 96 (by decide)]
  have e102 : V2 102 = V 102 := by rw [g1 102 (by decide), f1 102 (by decide), up_a (by decide), up_a (by decide), up_a (by decide)]
  refine ⟨⟨?_, fun i c hc => by simp at hc⟩, ⟨?_, ?_, ?_, fun t ht => ?_, fun s hs => ?_⟩, ⟨fun s b hs hb => ?_, fun t ht => ⟨?_, ?_, ?_⟩, ?_⟩, ⟨?_, fun i u hu => by simp at hu⟩, ⟨?_, up_eq, fun w hw => (by cases hw), fun w hw => (by cases hw)⟩, ⟨?_, fun i c hc => by simp at hc⟩⟩
  · rw [up_a (by decide), up_a (by decide), up_k (by decide), up_k (by decide), up_eq]; rfl
  · rw [up_a (by decide), up_a (by decide), up_k (by decide), up_k (by decide), up_k (by decide), e96, up_k (by decide), up_k (by decide), up_eq]; exact r1
  · rw [up_a (by decide), up_a (by decide), up_k (by decide), up_k (by decide), up_k (by decide), e96, up_k (by decide), up_eq]; exact r2
  · rw [up_a (by decide), up_a (by decide), up_k (by decide), up_k (by decide), up_k (by decide), e96, up_eq]; exact r3
  · have ht : t < r.1.1 := ht
    rw [up_a (by decide), up_a (by decide), up_a (by decide), up_a (by decide), up_a (by decide), h1 99 (by decide), g3 t (Nat.zero_le _) (by omega), f1 101 (by decide), up_a (by decide), up_a (by decide), up_a (by decide)]; exact r6 t ht
  · have hs : s < r.1.2.1 := hs
    rw [up_a (by decide), up_a (by decide), up_a (by decide), up_a (by decide), up_a (by decide), h1 98 (by decide), g1 98 (by decide), f3 s (Nat.zero_le _) (by omega), up_a (by decide), up_a (by decide), up_a (by decide)]; exact r7 s hs
  · have hs : s < r.1.2.1 := hs
    have hb : b < r.1.2.2.1 := hb
    have hC := o1.2.2.2.2.1
    rw [up_a (by decide), up_a (by decide), up_a (by decide), up_a (by decide), up_a (by decide), h3 _ (Nat.zero_le _) (by omega), e102, r8 _ (by omega)]
    show _ = oI (r.2.1.1 s b)
    rw [o3]; rfl
  · rw [up_a (by decide), up_a (by decide), up_a (by decide), up_a (by decide), up_a (by decide), h3 _ (Nat.zero_le _) (by omega), e102, Nat.zero_add]; exact (r9 t ht).1
  · rw [up_a (by decide), up_a (by decide), up_a (by decide), up_a (by decide), up_a (by decide), h3 _ (Nat.zero_le _) (by omega), e102, Nat.zero_add]; exact (r9 t ht).2.1
  · rw [up_a (by decide), up_a (by decide), up_a (by decide), up_a (by decide), up_a (by decide), h3 _ (Nat.zero_le _) (by omega), e102, Nat.zero_add]; exact (r9 t ht).2.2
  · rw [up_a (by decide), up_a (by decide), up_a (by decide), up_a (by decide), up_a (by decide), h3 _ (Nat.zero_le _) (by omega), e102]
    show _ = nI r.2.1.2.2.2
    rw [o4]; exact r10
  · rw [up_a (by decide), up_a (by decide), up_eq]; rfl
  · rw [up_k (by decide), up_eq]; rfl
  · rw [up_a (by decide), up_a (by decide), up_k (by decide), up_eq]; rfl
end MB
