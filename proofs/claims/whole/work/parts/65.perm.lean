/-! the brightest first -/
def bfB (d : sT) (o s : Nat) : Bool := decide (d.2.2.2.2 s < d.2.2.2.2 o) || (decide (d.2.2.2.2 o = d.2.2.2.2 s) && decide (o < s))
def p_rk (d : sT) (s : Nat) : Nat → Nat
  | 0 => 0
  | n + 1 => p_rk d s n + (if bfB d n s then 1 else 0)
def p_rank (d : sT) (s : Nat) : Nat := p_rk d s d.2.1
theorem bf_iff (d : sT) (o s : Nat) : bfB d o s = true ↔ (d.2.2.2.2 s < d.2.2.2.2 o ∨ (d.2.2.2.2 o = d.2.2.2.2 s ∧ o < s)) := by simp [bfB]
theorem p_rk_le (d : sT) (s : Nat) : ∀ n, p_rk d s n ≤ n ∧ (s < n → p_rk d s n < n) := by
  intro n
  induction n with
  | zero => exact ⟨Nat.le_refl _, fun h => by omega⟩
  | succ n ih =>
    simp only [p_rk]
    refine ⟨by split <;> omega, fun h => ?_⟩
    by_cases e : s = n
    · subst e
      rw [if_neg (by rw [bf_iff]; omega)]
      omega
    · have := ih.2 (by omega)
      split <;> omega
theorem p_rk_lt (d : sT) {a b : Nat} (h : bfB d a b = true) : ∀ n, p_rk d a n ≤ p_rk d b n ∧ (a < n → p_rk d a n < p_rk d b n) := by
  intro n
  rw [bf_iff] at h
  induction n with
  | zero => exact ⟨Nat.le_refl _, fun h => by omega⟩
  | succ n ih =>
    simp only [p_rk]
    have tr : bfB d n a = true → bfB d n b = true := by
      rw [bf_iff, bf_iff]
      omega
    by_cases e : a = n
    · subst e
      rw [if_neg (by rw [bf_iff]; omega), if_pos (by rw [bf_iff]; omega)]
      omega
    · by_cases c : bfB d n a = true
      · rw [if_pos c, if_pos (tr c)]
        exact ⟨by omega, fun h => by have := ih.2 (by omega); omega⟩
      · rw [if_neg c]
        exact ⟨by omega, fun h => by have := ih.2 (by omega); omega⟩
def invH (n a b c e : Nat) : Bool := ((List.range n).all fun i => decide ([a, b, c, e].getD i 0 < n)) && ((List.range n).all fun i => (List.range n).all fun j => decide ([a, b, c, e].getD i 0 = [a, b, c, e].getD j 0 → i = j))
theorem inv4 : ∀ n, n < 5 → ∀ a, a < 4 → ∀ b, b < 4 → ∀ c, c < 4 → ∀ e, e < 4 → (!invH n a b c e || ((List.range n).map (fun i => [a, b, c, e].getD i 0)).isPerm (List.range n)) = true := by decide +kernel
theorem inv_fun {n : Nat} (hn : n ≤ 4) {f : Nat → Nat} (h1 : ∀ i, i < n → f i < n) (h2 : ∀ i, i < n → ∀ j, j < n → f i = f j → i = j) : (∀ r, r < n → ∃ i, i < n ∧ f i = r) ∧ ((List.range n).map f).Perm (List.range n) := by
  have e : ∀ i, i < n → [f 0 % 4, f 1 % 4, f 2 % 4, f 3 % 4].getD i 0 = f i := by
    intro i hi
    have := h1 i hi
    rcases (show i = 0 ∨ i = 1 ∨ i = 2 ∨ i = 3 by omega) with rfl | rfl | rfl | rfl <;> exact Nat.mod_eq_of_lt (by omega)
  have q2 := inv4 n (by omega) (f 0 % 4) (Nat.mod_lt _ (by decide)) (f 1 % 4) (Nat.mod_lt _ (by decide)) (f 2 % 4) (Nat.mod_lt _ (by decide)) (f 3 % 4) (Nat.mod_lt _ (by decide))
  have q0 : invH n (f 0 % 4) (f 1 % 4) (f 2 % 4) (f 3 % 4) = true := by
    unfold invH
    rw [Bool.and_eq_true, List.all_eq_true, List.all_eq_true]
    refine ⟨fun i hi => ?_, fun i hi => ?_⟩
    · rw [e i (List.mem_range.mp hi)]
      exact decide_eq_true (h1 i (List.mem_range.mp hi))
    · rw [List.all_eq_true]
      intro j hj
      rw [e i (List.mem_range.mp hi), e j (List.mem_range.mp hj)]
      exact decide_eq_true (h2 i (List.mem_range.mp hi) j (List.mem_range.mp hj))
  rw [q0, Bool.not_true, Bool.false_or] at q2
  have q3 : ((List.range n).map f).Perm (List.range n) := by
    rw [show (List.range n).map f = (List.range n).map (fun i => [f 0 % 4, f 1 % 4, f 2 % 4, f 3 % 4].getD i 0) from List.map_congr_left (fun i hi => (e i (List.mem_range.mp hi)).symm)]
    exact List.isPerm_iff.mp q2
  refine ⟨fun r hr => ?_, q3⟩
  obtain ⟨i, hi, h⟩ := List.mem_map.mp (q3.mem_iff.mpr (List.mem_range.mpr hr))
  exact ⟨i, List.mem_range.mp hi, h⟩
section PM
variable {d : sT} {w : sW}
theorem tu_rank (hd : okT d) : ∃ iv, tuOk d (p_rank d) iv := by
  have hS := hd.2.2.1
  have h1 : ∀ i, i < d.2.1 → p_rank d i < d.2.1 := fun i hi => (p_rk_le d i d.2.1).2 hi
  have h2 : ∀ i, i < d.2.1 → ∀ j, j < d.2.1 → p_rank d i = p_rank d j → i = j := by
    intro i hi j hj h
    by_cases e : i = j
    · exact e
    · exfalso
      by_cases c : bfB d i j = true
      · have : p_rank d i < p_rank d j := (p_rk_lt d c d.2.1).2 hi
        omega
      · have c2 : bfB d j i = true := by
          rw [bf_iff] at c ⊢
          omega
        have : p_rank d j < p_rank d i := (p_rk_lt d c2 d.2.1).2 hj
        omega
  obtain ⟨q1, -⟩ := inv_fun hS h1 h2
  have key : ∀ r, ∃ i, r < d.2.1 → i < d.2.1 ∧ p_rank d i = r := by
    intro r
    by_cases hr : r < d.2.1
    · obtain ⟨i, h⟩ := q1 r hr
      exact ⟨i, fun _ => h⟩
    · exact ⟨0, fun h => absurd h hr⟩
  refine ⟨fun r => Classical.choose (key r), fun s hs => ⟨h1 s hs, ?_⟩, fun r hr => Classical.choose_spec (key r) hr⟩
  have := Classical.choose_spec (key (p_rank d s)) (h1 s hs)
  exact h2 _ this.1 _ hs this.2
theorem tu_perm (hd : okT d) {tu iv : Nat → Nat} (h : tuOk d tu iv) : ((List.range d.2.1).map iv).Perm (List.range d.2.1) :=
  (inv_fun hd.2.2.1 (fun i hi => (h.2 i hi).1) (fun i hi j hj e => by rw [← (h.2 i hi).2, e, (h.2 j hj).2])).2
theorem c_rank (hd : okT d) {V : xV} (hto : cTo V d) {s : Nat} (hs : s < d.2.1) : f_X3_rankByLight_2 (nI s) V = some (nI (p_rank d s), V) := by
  have hS := hd.2.2.1
  have hls := hd.2.2.2.2.2.2 s hs
  have key : ∀ (m o n : Nat), m + o = d.2.1 → m < n → f_X3_rankByLight_2_L4 (nI s) n (fun l2_7 l3_8 V9 => some (l2_7, V9)) (nI (p_rk d s o)) (nI o) V = some (nI (p_rk d s d.2.1), V) := by
    intro m
    induction m with
    | zero =>
      intro o n ho hn
      obtain ⟨n, rfl⟩ : ∃ q, n = q + 1 := ⟨n - 1, by omega⟩
      obtain rfl : o = d.2.1 := by omega
      rw [f_X3_rankByLight_2_L4, hto.2.1, if_pos (by rw [i_le]; exact Int.le_refl _)]
    | succ m ih =>
      intro o n ho hn
      obtain ⟨n, rfl⟩ : ∃ q, n = q + 1 := ⟨n - 1, by omega⟩
      have hlo := hd.2.2.2.2.2.2 o (by omega)
      have ih' := ih (o + 1) n (by omega) (by omega)
      simp only [p_rk] at ih'
      rw [f_X3_rankByLight_2_L4, hto.2.1, if_neg (by rw [i_le, i_n (by omega), i_n (by omega)]; omega), if_pos (x_inN (by omega) (by decide)), if_pos (x_inN (by omega) (by decide)), i_c (by omega), i_c (by omega), hto.2.2.2.2 s hs, hto.2.2.2.2 o (by omega), nI_1, nI_1]
      by_cases c1 : d.2.2.2.2 s < d.2.2.2.2 o
      · rw [if_pos (by rw [bf_iff]; omega)] at ih'
        rw [if_pos (by rw [i_lt, i_n (by omega), i_n (by omega)]; omega)]
        exact ih'
      · rw [if_neg (by rw [i_lt, i_n (by omega), i_n (by omega)]; omega)]
        by_cases c2 : d.2.2.2.2 o = d.2.2.2.2 s
        · rw [if_pos (by rw [c2])]
          by_cases c3 : s ≤ o
          · rw [if_neg (by rw [bf_iff]; omega)] at ih'
            rw [if_pos (by rw [i_le, i_n (by omega), i_n (by omega)]; omega)]
            exact ih'
          · rw [if_pos (by rw [bf_iff]; omega)] at ih'
            rw [if_neg (by rw [i_le, i_n (by omega), i_n (by omega)]; omega)]
            exact ih'
        · rw [if_neg (by rw [bf_iff]; omega)] at ih'
          rw [if_neg (fun q => c2 (i_inj (by omega) (by omega) q))]
          exact ih'
  exact key d.2.1 0 300 rfl (by omega)
/-! plans as functions, again -/
def gPl (d : sT) (al : Nat → Nat → Bool) (cp : Nat → Nat) (cf : Nat → Nat → Bool) (g : Nat → Nat) : Prop := (∀ j, j < p_N d → g j < d.1 ∧ al j (g j) = true ∧ (j % d.2.2.1 ≠ 0 → cf (g j) (g (j - 1)) = false)) ∧ ∀ t, t < d.1 → q_S d g t (p_N d) ≤ cp t
def mkL (g : Nat → Nat) : Nat → List Nat
  | 0 => []
  | n + 1 => g n :: mkL g n
theorem mkL_len (g : Nat → Nat) : ∀ n, (mkL g n).length = n := by
  intro n
  induction n with
  | zero => rfl
  | succ n ih => rw [mkL, List.length_cons, ih]
theorem mkL_at (g : Nat → Nat) : ∀ n i, i < n → p_at (mkL g n) i = g i := by
  intro n
  induction n with
  | zero => intro i hi; omega
  | succ n ih =>
    intro i hi
    rw [mkL]
    by_cases e : i = n
    · subst e
      have := p_at_top (g i) (mkL g i)
      rw [mkL_len] at this
      exact this
    · rw [p_at_cons _ _ (by rw [mkL_len]; omega), ih i (by omega)]
theorem gx_ne {al : Nat → Nat → Bool} {cp : Nat → Nat} {cf : Nat → Nat → Bool} {sw : Nat → Bool} (hC : 1 ≤ d.2.2.1) : gx d.1 (g_pl d al cp cf sw) (p_N d) [] ≠ [] ↔ ∃ g, gPl d al cp cf g ∧ ∀ j, j < p_N d → j % d.2.2.1 ≠ 0 → sw j = true → g (j - 1) ≤ g j := by
  constructor
  · intro h
    obtain ⟨X, hX⟩ := List.exists_mem_of_ne_nil _ h
    have hl : X.length = p_N d := by simpa using (gx_mem _ _ _ hX).1
    have hok := ok_at X (gx_ok _ _ _ (show g_ok d.1 (g_pl d al cp cf sw) [] from trivial) hX)
    have tot : ∀ t n, n ≤ p_N d → q_S d (p_at X) t n ≤ cp t := by
      intro t n
      induction n with
      | zero => intro _; exact Nat.zero_le _
      | succ n ih =>
        intro hn
        by_cases e : p_at X n = t
        · have := (hok n (by omega)).2.2.1
          rw [e] at this
          exact this
        · rw [q_S, if_neg e]
          exact ih (by omega)
    exact ⟨p_at X, ⟨fun j hj => ⟨(hok j (by omega)).1, (hok j (by omega)).2.1, fun hm => ((hok j (by omega)).2.2.2 hm).1⟩, fun t _ => tot t _ (Nat.le_refl _)⟩, fun j hj hm hs => ((hok j (by omega)).2.2.2 hm).2 hs⟩
  · rintro ⟨g, ⟨h1, h2⟩, h3⟩ hnil
    have hok : ∀ n, n ≤ p_N d → g_ok d.1 (g_pl d al cp cf sw) (mkL g n) := by
      intro n
      induction n with
      | zero => intro _; trivial
      | succ n ih =>
        intro hn
        obtain ⟨a1, a2, a3⟩ := h1 n (by omega)
        refine ⟨a1, ?_, ih (by omega)⟩
        unfold g_pl
        rw [mkL_len]
        simp only [Bool.and_eq_true, decide_eq_true_eq]
        refine ⟨⟨a2, ?_⟩, ?_⟩
        · unfold g_sd
          cases n with
          | zero =>
            have : p_sd d (mkL g 0) = none := by unfold p_sd; simp [mkL]
            rw [this]
          | succ n =>
            rw [mkL, p_sd_cons, mkL_len]
            by_cases hm : (n + 1) % d.2.2.1 = 0
            · rw [if_pos hm]
            · rw [if_neg hm]
              have b1 := a3 hm
              rw [Nat.add_sub_cancel] at b1
              have b2 := h3 (n + 1) (by omega) hm
              rw [Nat.add_sub_cancel] at b2
              simp only [b1, Bool.not_false, Bool.true_and, List.length_cons, mkL_len]
              cases hs : sw (n + 1) with
              | false => rfl
              | true => simp [b2 hs]
        · have e : p_sm d (mkL g n) (g n) = q_S d g (g n) n := by
            rw [p_sm_S, mkL_len]
            exact q_S_cg n (fun i hi => mkL_at g n i hi)
          have q := h2 (g n) a1
          have q2 := q_S_le d g (g n) (n + 1) (p_N d - (n + 1))
          rw [show n + 1 + (p_N d - (n + 1)) = p_N d by omega, q_S, if_pos rfl] at q2
          omega
    have := ok_gx (p_N d) [] (mkL g (p_N d)) (mkL_len _ _) (by rw [List.append_nil]; exact hok _ (Nat.le_refl _))
    rw [hnil] at this
    cases this
/-! light by season -/
def q_z (d : sT) (g : Nat → Nat) (t s : Nat) : Nat := (if g (s * d.2.2.1) = t then d.2.2.2.2 s else 0) + (if d.2.2.1 = 2 ∧ g (s * d.2.2.1 + 1) = t then d.2.2.2.2 s else 0)
theorem q_S_z (hd : okT d) (g : Nat → Nat) (t : Nat) : ∀ n, q_S d g t (n * d.2.2.1) = ((List.range n).map (q_z d g t)).sum := by
  have hC1 := hd.2.2.2.1
  have hC2 := hd.2.2.2.2.1
  intro n
  induction n with
  | zero => rw [Nat.zero_mul]; rfl
  | succ n ih =>
    rw [List.range_succ, List.map_append, List.sum_append_nat, ← ih]
    simp only [List.map_cons, List.map_nil, List.sum_cons, List.sum_nil, Nat.add_zero]
    have l0 : p_lt d (n * d.2.2.1) = d.2.2.2.2 n := by unfold p_lt; rw [Nat.mul_div_cancel _ (by omega)]
    by_cases hC : d.2.2.1 = 1
    · rw [show (n + 1) * d.2.2.1 = n * d.2.2.1 + 1 by rw [Nat.succ_mul, hC], q_S, l0]
      unfold q_z
      rw [if_neg (show ¬ (d.2.2.1 = 2 ∧ g (n * d.2.2.1 + 1) = t) from fun q => by omega), Nat.add_zero]
    · have hC : d.2.2.1 = 2 := by omega
      have l1 : p_lt d (n * d.2.2.1 + 1) = d.2.2.2.2 n := by
        unfold p_lt
        rw [show (n * d.2.2.1 + 1) / d.2.2.1 = n by rw [hC]; omega]
      rw [show (n + 1) * d.2.2.1 = n * d.2.2.1 + 1 + 1 by rw [Nat.succ_mul, hC], q_S, q_S, l0, l1]
      unfold q_z
      simp only [hC, true_and]
      omega
theorem q_tot (hd : okT d) {tu iv : Nat → Nat} (htu : tuOk d tu iv) (g : Nat → Nat) (t : Nat) : q_S (dTu d iv) (fun j => g (iv (j / d.2.2.1) * d.2.2.1 + j % d.2.2.1)) t (p_N d) = q_S d g t (p_N d) := by
  have hC1 := hd.2.2.2.1
  have hC2 := hd.2.2.2.2.1
  have e1 := q_S_z (okT_tu hd htu) (fun j => g (iv (j / d.2.2.1) * d.2.2.1 + j % d.2.2.1)) t d.2.1
  have e2 := q_S_z hd g t d.2.1
  show q_S (dTu d iv) _ t (d.2.1 * d.2.2.1) = q_S d g t (d.2.1 * d.2.2.1)
  rw [e2]
  refine Eq.trans e1 ?_
  have e3 : q_z (dTu d iv) (fun j => g (iv (j / d.2.2.1) * d.2.2.1 + j % d.2.2.1)) t = fun r => q_z d g t (iv r) := by
    funext r
    show (if g (iv (r * d.2.2.1 / d.2.2.1) * d.2.2.1 + r * d.2.2.1 % d.2.2.1) = t then d.2.2.2.2 (iv r) else 0) + (if d.2.2.1 = 2 ∧ g (iv ((r * d.2.2.1 + 1) / d.2.2.1) * d.2.2.1 + (r * d.2.2.1 + 1) % d.2.2.1) = t then d.2.2.2.2 (iv r) else 0) = _
    rw [Nat.mul_div_cancel _ (by omega), Nat.mul_mod_left, Nat.add_zero]
    unfold q_z
    congr 1
    by_cases hC : d.2.2.1 = 2
    · rw [show (r * d.2.2.1 + 1) / d.2.2.1 = r by rw [hC]; omega, show (r * d.2.2.1 + 1) % d.2.2.1 = 1 by rw [hC]; omega]
    · rw [if_neg (fun q => hC q.1), if_neg (fun q => hC q.1)]
  rw [e3, show (List.range d.2.1).map (fun r => q_z d g t (iv r)) = ((List.range d.2.1).map iv).map (q_z d g t) by rw [List.map_map]; rfl]
  exact ((tu_perm hd htu).map _).sum_nat
end PM
