/-! the class's search, as mathematics -/
def g_sd (d : sT) (cf : Nat → Nat → Bool) (sw : Nat → Bool) (l : List Nat) (t : Nat) : Bool := match p_sd d l with
  | none => true
  | some u => !cf t u && (!sw l.length || decide (u ≤ t))
def g_pl (d : sT) (al : Nat → Nat → Bool) (cp : Nat → Nat) (cf : Nat → Nat → Bool) (sw : Nat → Bool) (l : List Nat) (t : Nat) : Bool := al l.length t && g_sd d cf sw l t && decide (p_sm d l t + p_lt d l.length ≤ cp t)
theorem p_pl_g (d : sT) (w : sW) (br : Option Nat) (more : Nat) (l : List Nat) (t : Nat) : p_pl d w br more l t = g_pl d (p_al d w br) (p_cp d w more) (p_cf w) (fun _ => false) l t := by
  rw [p_pl_eq]
  unfold g_pl g_sd p_side
  cases p_sd d l with
  | none => rfl
  | some u => simp
def g_ok (T : Nat) (pl : List Nat → Nat → Bool) : List Nat → Prop
  | [] => True
  | x :: l => x < T ∧ pl l x = true ∧ g_ok T pl l
theorem gx_ok {T : Nat} {pl : List Nat → Nat → Bool} : ∀ (k : Nat) (l x : List Nat), g_ok T pl l → x ∈ gx T pl k l → g_ok T pl x := by
  intro k
  induction k with
  | zero =>
    intro l x hl h
    rw [gx, List.mem_singleton] at h
    subst h
    exact hl
  | succ k ih =>
    intro l x hl h
    rw [gx, List.mem_flatMap] at h
    obtain ⟨t, ht, h⟩ := h
    split at h
    · rename_i hp
      exact ih (t :: l) x ⟨List.mem_range.mp ht, hp, hl⟩ h
    · cases h
theorem ok_gx {T : Nat} {pl : List Nat → Nat → Bool} : ∀ (k : Nat) (l y : List Nat), y.length = k → g_ok T pl (y ++ l) → y ++ l ∈ gx T pl k l := by
  intro k
  induction k with
  | zero =>
    intro l y hy h
    obtain rfl := List.length_eq_zero_iff.mp hy
    simp [gx]
  | succ k ih =>
    intro l y hy h
    rcases List.eq_nil_or_concat y with rfl | ⟨y', t, rfl⟩
    · simp at hy
    · simp only [List.concat_eq_append, List.append_assoc, List.cons_append, List.nil_append, List.length_append, List.length_cons, List.length_nil] at hy h ⊢
      have q := ih (t :: l) y' (by omega) h
      have sub : g_ok T pl (t :: l) := by
        clear q ih hy
        induction y' with
        | nil => exact h
        | cons z y' ihy => exact ihy h.2.2
      rw [gx, List.mem_flatMap]
      exact ⟨t, List.mem_range.mpr sub.1, by rw [if_pos sub.2.1]; exact q⟩
theorem q_S_cg {d : sT} {g g' : Nat → Nat} {t : Nat} : ∀ j, (∀ i, i < j → g i = g' i) → q_S d g t j = q_S d g' t j := by
  intro j
  induction j with
  | zero => intro _; rfl
  | succ j ih =>
    intro h
    rw [q_S, q_S, ih (fun i hi => h i (by omega)), h j (by omega)]
theorem p_sm_S (d : sT) (t : Nat) : ∀ l : List Nat, p_sm d l t = q_S d (p_at l) t l.length := by
  intro l
  induction l with
  | nil => rfl
  | cons x l ih =>
    rw [List.length_cons, q_S, p_at_top, p_sm, ih, q_S_cg l.length (fun i hi => (p_at_cons x l hi).symm)]
def q_T (d : sT) (g : Nat → Nat) : Nat → Nat
  | 0 => 0
  | j + 1 => q_T d g j + q_c d g j
theorem q_c_cg {d : sT} {g g' : Nat → Nat} {j : Nat} (h : ∀ i, i ≤ j → g i = g' i) : q_c d g j = q_c d g' j := by
  unfold q_c
  rw [h j (Nat.le_refl _), h (j - d.2.2.1) (by omega)]
theorem q_T_cg {d : sT} {g g' : Nat → Nat} : ∀ j, (∀ i, i < j → g i = g' i) → q_T d g j = q_T d g' j := by
  intro j
  induction j with
  | zero => intro _; rfl
  | succ j ih =>
    intro h
    rw [q_T, q_T, ih (fun i hi => h i (by omega)), q_c_cg (fun i hi => h i (by omega))]
theorem p_c1_q {d : sT} (hC : 1 ≤ d.2.2.1) (l : List Nat) (x : Nat) : p_c1 d l x = q_c d (p_at (x :: l)) l.length := by
  unfold p_c1 q_c
  by_cases h : d.2.2.1 ≤ l.length
  · have e1 : p_at (x :: l) (l.length - d.2.2.1) = p_at l (l.length - d.2.2.1) := p_at_cons x l (by omega)
    have e2 : l[d.2.2.1 - 1]? = some (p_at l (l.length - d.2.2.1)) := by
      unfold p_at
      rw [show l.length - 1 - (l.length - d.2.2.1) = d.2.2.1 - 1 by omega, List.getD_eq_getElem?_getD, List.getElem?_eq_getElem (by omega)]
      rfl
    rw [e1, p_at_top, e2]
    congr 1
    simp
  · rw [if_neg (fun q => h q.1), if_neg (fun q => h q.1)]
theorem p_ch_T {d : sT} (hC : 1 ≤ d.2.2.1) : ∀ l : List Nat, p_ch d l = q_T d (p_at l) l.length := by
  intro l
  induction l with
  | nil => rfl
  | cons x l ih =>
    rw [List.length_cons, q_T, p_ch, ih, p_c1_q hC, q_T_cg l.length (fun i hi => (p_at_cons x l hi).symm)]
theorem q_T_tc (d : sT) (g : Nat → Nat) : ∀ n j, q_T d g (j + n) = q_T d g j + q_tc d g n j := by
  intro n
  induction n with
  | zero => intro j; rfl
  | succ n ih =>
    intro j
    rw [show j + (n + 1) = j + 1 + n by omega, ih (j + 1), q_T, q_tc]
    omega
theorem p_at_app (y l : List Nat) {i : Nat} (h : i < l.length) : p_at (y ++ l) i = p_at l i := by
  induction y with
  | nil => rfl
  | cons x y ih => rw [List.cons_append, p_at_cons _ _ (by rw [List.length_append]; omega), ih]
theorem p_mo_app (d : sT) : ∀ (y l : List Nat), p_mo d l ≤ p_mo d (y ++ l) := by
  intro y
  induction y with
  | nil => intro l; exact Nat.le_refl _
  | cons x y ih =>
    intro l
    have := ih l
    simp only [List.cons_append, p_mo]
    omega
section GS
variable {d : sT} {al : Nat → Nat → Bool} {cp : Nat → Nat} {cf : Nat → Nat → Bool} {sw : Nat → Bool} {op ru : Nat → Nat}
theorem p_sd_cons (u : Nat) (l : List Nat) : p_sd d (u :: l) = if (l.length + 1) % d.2.2.1 = 0 then none else some u := by
  unfold p_sd
  rw [List.length_cons]
  rfl
theorem ok_at : ∀ X : List Nat, g_ok d.1 (g_pl d al cp cf sw) X → ∀ i, i < X.length → p_at X i < d.1 ∧ al i (p_at X i) = true ∧ q_S d (p_at X) (p_at X i) (i + 1) ≤ cp (p_at X i) ∧ (i % d.2.2.1 ≠ 0 → cf (p_at X i) (p_at X (i - 1)) = false ∧ (sw i = true → p_at X (i - 1) ≤ p_at X i)) := by
  intro X
  induction X with
  | nil => intro _ i hi; simp at hi
  | cons x l ih =>
    intro h i hi
    obtain ⟨h1, h2, h3⟩ := h
    by_cases hl : i < l.length
    · obtain ⟨q1, q2, q3, q4⟩ := ih h3 i hl
      rw [p_at_cons _ _ hl, q_S_cg (g' := p_at l) (i + 1) (fun k hk => p_at_cons _ _ (by omega)), p_at_cons (i := i - 1) _ _ (by omega)]
      exact ⟨q1, q2, q3, q4⟩
    · rw [List.length_cons] at hi
      obtain rfl : i = l.length := by omega
      simp only [g_pl, Bool.and_eq_true, decide_eq_true_eq] at h2
      obtain ⟨⟨c1, c2⟩, c3⟩ := h2
      rw [p_at_top]
      refine ⟨h1, c1, ?_, fun hm => ?_⟩
      · rw [q_S, p_at_top, if_pos rfl, q_S_cg (g' := p_at l) l.length (fun k hk => p_at_cons _ _ hk), ← p_sm_S]
        exact c3
      · cases l with
        | nil => simp at hm
        | cons u l' =>
          rw [List.length_cons] at hm
          have e : p_at (x :: u :: l') ((u :: l').length - 1) = u := by
            rw [List.length_cons, Nat.add_sub_cancel, p_at_cons _ _ (by simp), p_at_top]
          rw [e]
          unfold g_sd at c2
          rw [p_sd_cons, if_neg hm] at c2
          simp only [Bool.and_eq_true, Bool.not_eq_true', Bool.or_eq_true, decide_eq_true_eq] at c2
          refine ⟨c2.1, fun hs => ?_⟩
          rcases c2.2 with q | q
          · rw [hs] at q; cases q
          · exact q
/-- the things open for a slot -/
def q_op (d : sT) (al : Nat → Nat → Bool) (cp : Nat → Nat) (cf : Nat → Nat → Bool) (op : Nat → Nat) : Prop := (∀ j, j < p_N d → op j < 64) ∧ (∀ j t, j < p_N d → t < d.1 → (op j).testBit t = true → al j t = true ∧ p_lt d j ≤ cp t) ∧ (d.2.2.1 = 1 → ∀ j t, j < p_N d → t < d.1 → al j t = true → p_lt d j ≤ cp t → (op j).testBit t = true) ∧ (d.2.2.1 = 2 → ∀ s a b, 2 * s + 1 < p_N d → a < d.1 → b < d.1 → al (2 * s) a = true → al (2 * s + 1) b = true → p_lt d (2 * s) ≤ cp a → p_lt d (2 * s + 1) ≤ cp b → cf b a = false → (op (2 * s)).testBit a = true ∧ (op (2 * s + 1)).testBit b = true)
theorem q_S_lt (g : Nat → Nat) (i : Nat) : p_lt d i ≤ q_S d g (g i) (i + 1) := by
  rw [q_S, if_pos rfl]; omega
theorem ok_gd (hd : okT d) (ho : q_op d al cp cf op) {X : List Nat} (h : g_ok d.1 (g_pl d al cp cf sw) X) (hX : X.length = p_N d) : ∀ i, i < p_N d → q_gd d op cp (p_at X) i := by
  intro i hi
  obtain ⟨q1, q2, q3, q4⟩ := ok_at X h i (by omega)
  refine ⟨q1, ?_, q3⟩
  have l1 := q_S_lt (d := d) (p_at X) i
  have hC1 := hd.2.2.2.1
  have hC2 := hd.2.2.2.2.1
  by_cases hC : d.2.2.1 = 1
  · exact ho.2.2.1 hC i _ hi q1 q2 (by omega)
  · have hC : d.2.2.1 = 2 := by omega
    have hNe : p_N d = d.2.1 * 2 := by unfold p_N; rw [hC]
    rcases Nat.mod_two_eq_zero_or_one i with hm | hm
    · obtain ⟨s, rfl⟩ : ∃ s, i = 2 * s := ⟨i / 2, by omega⟩
      obtain ⟨r1, r2, r3, r4⟩ := ok_at X h (2 * s + 1) (by omega)
      have l2 := q_S_lt (d := d) (p_at X) (2 * s + 1)
      have r4 := (r4 (by rw [hC]; omega)).1
      rw [Nat.add_sub_cancel] at r4
      exact (ho.2.2.2 hC s _ _ (by omega) q1 r1 q2 r2 (by omega) (by omega) r4).1
    · obtain ⟨s, rfl⟩ : ∃ s, i = 2 * s + 1 := ⟨i / 2, by omega⟩
      obtain ⟨r1, r2, r3, r4⟩ := ok_at X h (2 * s) (by omega)
      have l2 := q_S_lt (d := d) (p_at X) (2 * s)
      have q4 := (q4 (by rw [hC]; omega)).1
      rw [Nat.add_sub_cancel] at q4
      exact (ho.2.2.2 hC s _ _ (by omega) r1 q1 r2 q2 (by omega) (by omega) q4).2
/-- changesAfter -/
def q_ca (d : sT) (op cp ru : Nat → Nat) (l : List Nat) (t : Nat) : Nat := ru (q_lv d op cp t 4 (l.length + d.2.2.1) (p_sm d l t + p_lt d l.length))
/-- changesBeside -/
def q_be (d : sT) (op cp ru : Nat → Nat) (l : List Nat) : Nat := if d.2.2.1 = 1 then 0 else match l with
  | [] => ru 1 - 1
  | u :: l' => q_ca d op cp ru l' u
theorem q_low (hd : okT d) (ho : q_op d al cp cf op) (hr : q_ru d op cp ru) {y l : List Nat} {t : Nat} (h : g_ok d.1 (g_pl d al cp cf sw) (y ++ t :: l)) (hX : (y ++ t :: l).length = p_N d) : p_ch d (t :: l) + q_ca d op cp ru l t + q_be d op cp ru l ≤ p_ch d (y ++ t :: l) := by
  have hC1 := hd.2.2.2.1
  have hC2 := hd.2.2.2.2.1
  have h4 := p_N4 hd
  have hg := ok_gd hd ho h hX
  have hlen : (y ++ t :: l).length = (l.length + 1) + y.length := by rw [List.length_append, List.length_cons]; omega
  have eT : p_ch d (y ++ t :: l) = p_ch d (t :: l) + q_tc d (p_at (y ++ t :: l)) y.length (l.length + 1) := by
    rw [p_ch_T hC1, hlen, q_T_tc, p_ch_T hC1, List.length_cons, q_T_cg (l.length + 1) (fun i hi => p_at_app y (t :: l) (by rw [List.length_cons]; omega))]
  have et : p_at (y ++ t :: l) l.length = t := by rw [p_at_app y (t :: l) (by rw [List.length_cons]; omega), p_at_top]
  have lowA := q_lowA hd hr (g := p_at (y ++ t :: l)) 4 l.length (p_sm d l t + p_lt d l.length) (by omega) (by omega) (by
    rw [et, q_S, et, if_pos rfl, q_S_cg (g' := p_at l) l.length (fun i hi => by rw [p_at_app y (t :: l) (by rw [List.length_cons]; omega), p_at_cons _ _ hi]), ← p_sm_S]
    exact Nat.le_refl _) (fun i _ hi => hg i hi)
  rw [et] at lowA
  rw [eT]
  have e1 : q_ca d op cp ru l t ≤ q_cg d (p_at (y ++ t :: l)) 4 l.length := lowA
  unfold q_be
  by_cases hC : d.2.2.1 = 1
  · rw [if_pos hC, q_tc1 hd hC _ y.length l.length (by omega)]
    omega
  · have hC : d.2.2.1 = 2 := by omega
    have hNe : p_N d = d.2.1 * 2 := by unfold p_N; rw [hC]
    rw [if_neg (by omega)]
    cases l with
    | nil =>
      simp only [List.length_nil] at *
      rw [q_tc2' hd hC _ y.length (by omega)]
      have lowB := q_lowB hd hr (g := p_at (y ++ [t])) 4 1 (by omega) (by omega) (fun i _ hi => hg i hi)
      omega
    | cons u l' =>
      have eu : p_at (y ++ t :: u :: l') l'.length = u := by rw [p_at_app y (t :: u :: l') (by simp; omega), p_at_cons _ _ (by simp), p_at_top]
      simp only [List.length_cons] at *
      have lowC := q_lowA hd hr (g := p_at (y ++ t :: u :: l')) 4 l'.length (p_sm d l' u + p_lt d l'.length) (by omega) (by omega) (by
        rw [eu, q_S, eu, if_pos rfl, q_S_cg (g' := p_at l') l'.length (fun i hi => by rw [p_at_app y (t :: u :: l') (by simp; omega), p_at_cons _ _ (by simp; omega), p_at_cons _ _ hi]), ← p_sm_S]
        exact Nat.le_refl _) (fun i _ hi => hg i hi)
      rw [eu] at lowC
      have e2 : q_ca d op cp ru l' u ≤ q_cg d (p_at (y ++ t :: u :: l')) 4 l'.length := lowC
      rw [q_tc2 hd hC _ y.length l'.length (by omega)]
      show _ + q_ca d op cp ru (u :: l') t + q_ca d op cp ru l' u ≤ _
      omega
/-! what it asks and what it takes -/
def q_lim (any : Bool) (a : Option (Nat × List Nat)) : Nat := match a with
  | none => 1000
  | some q => if any then 0 else q.1
def q_bt (d : sT) (op : Nat → Nat) (cf : Nat → Nat → Bool) (sw : Nat → Bool) (l : List Nat) (t : Nat) : Bool := (op l.length).testBit t && g_sd d cf sw l t
def q_ft (d : sT) (op cp ru : Nat → Nat) (cf : Nat → Nat → Bool) (sw : Nat → Bool) (any : Bool) (B : Nat) (a : Option (Nat × List Nat)) (l : List Nat) (t : Nat) : Bool := decide (p_mo d l < q_lim any a) && q_bt d op cf sw l t && decide (p_ch d l + p_c1 d l t ≤ B) && decide (p_sm d l t + p_lt d l.length ≤ cp t) && decide (p_sm d l t + p_lt d l.length < q_lim any a) && decide (p_ch d (t :: l) + q_ca d op cp ru l t + q_be d op cp ru l ≤ B)
def q_up (d : sT) (any : Bool) (B : Nat) (a : Option (Nat × List Nat)) (x : List Nat) : Option (Nat × List Nat) := if p_ch d x ≤ B ∧ p_mo d x < q_lim any a then some (p_mo d x, x) else a
theorem q_all (hd : okT d) (ho : q_op d al cp cf op) (hr : q_ru d op cp ru) (any : Bool) (B : Nat) (a : Option (Nat × List Nat)) : gd d.1 (q_ft d op cp ru cf sw any B) (q_up d any B) (p_N d) [] a = (gx d.1 (g_pl d al cp cf sw) (p_N d) []).foldl (q_up d any B) a := by
  refine (gd_eq (T := d.1) (N := p_N d) (pl := g_pl d al cp cf sw) (g_ok d.1 (g_pl d al cp cf sw)) (fun _ => True) (fun l t hl ht hp => ⟨ht, hp, hl⟩) (fun _ _ _ _ => trivial) (fun a l t _ hl hN ht hf => ?_) (fun a k l t x _ hl ht hk hp hf hx => ?_) (p_N d) [] a trivial trivial (by simp)).1
  · simp only [q_ft, q_bt, Bool.and_eq_true, decide_eq_true_eq] at hf
    obtain ⟨⟨⟨⟨⟨-, f1, f2⟩, -⟩, f3⟩, -⟩, -⟩ := hf
    simp only [g_pl, Bool.and_eq_true, decide_eq_true_eq]
    exact ⟨⟨(ho.2.1 _ _ hN ht f1).1, f2⟩, f3⟩
  · have hok := gx_ok _ _ _ (show g_ok d.1 (g_pl d al cp cf sw) (t :: l) from ⟨ht, hp, hl⟩) hx
    obtain ⟨hlen, y, rfl⟩ := gx_mem _ _ _ hx
    rw [List.length_cons] at hlen
    have hX : (y ++ t :: l).length = p_N d := by omega
    have low := q_low hd ho hr hok hX
    have m1 := p_mo_app d y (t :: l)
    have c1 := p_ch_app d y (t :: l)
    simp only [p_mo] at m1
    have hb : (op l.length).testBit t = true := by
      have := (ok_gd hd ho hok hX l.length (by rw [← hX, List.length_append, List.length_cons]; omega)).2.1
      rw [p_at_app y (t :: l) (by rw [List.length_cons]; omega), p_at_top] at this
      exact this
    simp only [g_pl, Bool.and_eq_true, decide_eq_true_eq] at hp
    obtain ⟨⟨-, p2⟩, p3⟩ := hp
    have hs : p_sm d (t :: l) t = p_sm d l t + p_lt d l.length := by rw [p_sm, if_pos rfl]
    unfold q_up
    rw [if_neg]
    rintro ⟨u1, u2⟩
    have : q_ft d op cp ru cf sw any B a l t = true := by
      simp only [q_ft, q_bt, Bool.and_eq_true, decide_eq_true_eq]
      have c2 : p_ch d (t :: l) = p_ch d l + p_c1 d l t := rfl
      exact ⟨⟨⟨⟨⟨by omega, hb, p2⟩, by omega⟩, p3⟩, by omega⟩, by omega⟩
    rw [hf] at this
    cases this
end GS
