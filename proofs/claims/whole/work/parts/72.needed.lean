/-! needed -/
def pl0 (d : sT) (w : sW) (l : List Nat) (t : Nat) : Bool := p_al d w none l.length t && p_side d w l t
def p_U (d : sT) (w : sW) : List (List Nat) := gx d.1 (pl0 d w) (p_N d) []
def p_nd (d : sT) (w : sW) : Nat := (p_U d w).foldl (fun a l => min a (p_ov d l d.1)) 100
theorem min_fold {f : List Nat → Nat} : ∀ (L : List (List Nat)) (a m : Nat), L.foldl (fun a l => min a (f l)) a ≤ m ↔ a ≤ m ∨ ∃ x ∈ L, f x ≤ m := by
  intro L
  induction L with
  | nil => intro a m; simp
  | cons y L ih =>
    intro a m
    rw [List.foldl_cons, ih]
    constructor
    · rintro (h | ⟨x, hx, h⟩)
      · by_cases c : a ≤ m
        · exact Or.inl c
        · exact Or.inr ⟨y, List.mem_cons_self, by omega⟩
      · exact Or.inr ⟨x, List.mem_cons_of_mem _ hx, h⟩
    · rintro (h | ⟨x, hx, h⟩)
      · exact Or.inl (by omega)
      · rcases List.mem_cons.mp hx with rfl | hx
        · exact Or.inl (by omega)
        · exact Or.inr ⟨x, hx, h⟩
theorem p_ov_iff (d : sT) (l : List Nat) (m : Nat) : ∀ n, p_ov d l n ≤ m ↔ ∀ t, t < n → p_sm d l t ≤ d.2.2.2.1 t + m := by
  intro n
  induction n with
  | zero => exact ⟨fun _ t ht => by omega, fun _ => Nat.zero_le _⟩
  | succ n ih =>
    simp only [p_ov]
    constructor
    · intro h t ht
      by_cases e : t = n
      · subst e; omega
      · exact ih.mp (by omega) t (by omega)
    · intro h
      have h1 := ih.mpr (fun t ht => h t (by omega))
      have h2 := h n (by omega)
      omega
theorem p_sm_app (d : sT) (t : Nat) : ∀ (y l : List Nat), p_sm d l t ≤ p_sm d (y ++ l) t := by
  intro y
  induction y with
  | nil => intro l; exact Nat.le_refl _
  | cons x y ih =>
    intro l
    have := ih l
    simp only [List.cons_append, p_sm]
    omega
theorem ok_more {d : sT} {w : sW} (hon : p_on w 0 = true) {more : Nat} : ∀ l : List Nat, g_ok d.1 (p_pl d w none more) l ↔ g_ok d.1 (pl0 d w) l ∧ ∀ t, t < d.1 → p_sm d l t ≤ d.2.2.2.1 t + more := by
  have e : ∀ t, p_cp d w more t = d.2.2.2.1 t + more := fun t => by unfold p_cp; rw [if_pos hon]
  intro l
  induction l with
  | nil => exact ⟨fun _ => ⟨trivial, fun t _ => Nat.zero_le _⟩, fun _ => trivial⟩
  | cons y l ih =>
    simp only [g_ok, ih]
    rw [p_pl_eq, Bool.and_eq_true, decide_eq_true_eq, e]
    constructor
    · rintro ⟨a, ⟨b, c⟩, f, g⟩
      refine ⟨⟨a, b, f⟩, fun t ht => ?_⟩
      rw [p_sm]
      by_cases q : y = t
      · subst q; rw [if_pos rfl]; exact c
      · rw [if_neg q]; exact g t ht
    · rintro ⟨⟨a, b, f⟩, g⟩
      refine ⟨a, ⟨b, ?_⟩, f, fun t ht => Nat.le_trans (p_sm_app d t [y] l) (g t ht)⟩
      have := g y a
      rw [p_sm, if_pos rfl] at this
      exact this
theorem all_more {d : sT} {w : sW} (hon : p_on w 0 = true) {more : Nat} (hm : more ≤ 99) : p_all d w none more ≠ [] ↔ p_nd d w ≤ more := by
  unfold p_nd
  rw [min_fold]
  constructor
  · intro h
    obtain ⟨x, hx⟩ := List.exists_mem_of_ne_nil _ h
    obtain ⟨h1, h2⟩ := all_iff.mp hx
    obtain ⟨h3, h4⟩ := (ok_more hon x).mp h2
    refine Or.inr ⟨x, ?_, (p_ov_iff d x more d.1).mpr h4⟩
    have := ok_gx (p_N d) [] x h1 (by rw [List.append_nil]; exact h3)
    rw [List.append_nil] at this
    exact this
  · rintro (h | ⟨x, hx, h⟩)
    · omega
    · have hl : x.length = p_N d := by
        have := (gx_mem _ _ _ hx).1
        rw [List.length_nil, Nat.zero_add] at this
        exact this
      have hk := gx_ok _ _ _ (show g_ok d.1 (pl0 d w) [] from trivial) hx
      exact List.ne_nil_of_mem (all_iff.mpr ⟨hl, (ok_more hon x).mpr ⟨hk, (p_ov_iff d x more d.1).mp h⟩⟩)
theorem m_nd {d : sT} {w : sW} {V : xV} (hd : okT d) (hw : okW d w) (h0 : mTo V d) (hm : mW d (V 103) 0 w) : ∃ F0 V', (∀ F, F0 ≤ F → f_X7_tries F (-1) 1 V = some V') ∧ mFr V V' ∧ V' 96 32 = nI (p_nd d w) ∧ p_nd d w ≤ 100 := by
  have hbr : ∀ x, (none : Option Nat) = some x → x < d.1 := fun x e => by cases e
  obtain ⟨F0, V', e, f, r⟩ := m_tries (Ra := Ra1) (ft := ft1 d w none) (up := fun a l => min a (p_ov d l d.1)) (b := brI none) hd h0 (Or.inr rfl) (fun V V' a h1 h2 h => ⟨(h1 32 (Or.inl rfl)).trans h.1, h.2⟩) (fun V1 l t a hB hl ht hp hR => m_fits1 hd hw h0 hm hbr V1 l t a hB hl ht hp hR) (fun V1 l a hB hl hR _ => m_weigh1 hd h0 V1 l a hB hl hR) 100 (fun V1 h1 h2 => ⟨h1, Nat.le_refl _⟩)
  have g := gd_eq (T := d.1) (N := p_N d) (ft := ft1 d w none) (up := fun a l => min a (p_ov d l d.1)) (pl := pl0 d w) (fun _ => True) (fun _ => True) (fun _ _ _ _ _ => trivial) (fun _ _ _ _ => trivial) (fun a l t _ _ _ _ h => by
    simp only [ft1, Bool.and_eq_true] at h
    simp only [pl0, Bool.and_eq_true]
    exact h.1) (fun a k l t x _ _ ht hk hp hf hx => by
      unfold pl0 at hp
      simp only [ft1, hp, Bool.true_and, decide_eq_false_iff_not] at hf
      obtain ⟨-, y, rfl⟩ := gx_mem _ _ _ hx
      have h1 := p_sm_app d t y (t :: l)
      rw [show p_sm d (t :: l) t = p_sm d l t + p_lt d l.length by rw [p_sm, if_pos rfl]] at h1
      show min a (p_ov d (y ++ t :: l) d.1) = a
      by_cases c : p_ov d (y ++ t :: l) d.1 < a
      · exfalso
        have := (p_ov_iff d (y ++ t :: l) (p_ov d (y ++ t :: l) d.1) d.1).mp (Nat.le_refl _) t ht
        omega
      · omega) (p_N d) [] 100 trivial trivial (by simp)
  rw [g.1] at r
  exact ⟨F0, V', e, f, r.1, r.2⟩
theorem i_mid {a b : Nat} (ha : a < 1000) (hb : b < 1000) : (nI a + nI b) / (2 : Int32) = nI ((a + b) / 2) := by
  rw [nI_add]
  exact pk_div (d := 2) (by omega) (by decide) (by decide)
section ND
variable {x : List Int32} {d : sT} {w : sW} {hi : List sW} {im : Option sW × Option sW} {se : List Int32}
theorem c_canZ {V : xV} (hz : okS (x, d, w, hi, im, se)) (h : Cls (x, d, w, hi, im, se) V) (hh : cHold V d w) (hon : p_on w 0 = true) {more : Nat} (hm : more ≤ 99) : ∃ V', f_X2_canBeFilled (6 : Int32) (nI more) V = some (bI (decide (p_nd d w ≤ more)), V') ∧ Cls (x, d, w, hi, im, se) V' ∧ frC V V' ∧ cHold V' d w := by
  obtain ⟨o1, o2, o3, o4, -⟩ := hz.split
  obtain ⟨V', e, f⟩ := c_can o3 o4 h.to h.2.2.1 (br := none) (fun x e => by cases e) hm
  have hh' : cHold V' d w := by
    unfold cHold
    rw [f 73 (by decide), f 74 (by decide), f 75 (by decide)]
    exact hh
  refine ⟨V', ?_, h.ca hh' (fun a ha => f a (by omega)), fun a ha => f a (by omega), hh'⟩
  refine (show f_X2_canBeFilled (6 : Int32) (nI more) V = _ from e).trans ?_
  have := all_more (d := d) (w := w) hon hm
  by_cases c : p_nd d w ≤ more
  · have hne := this.mpr c
    rw [decide_eq_true c]
    cases hp : p_all d w none more with
    | nil => exact absurd hp hne
    | cons _ _ => rfl
  · have : p_all d w none more = [] := by
      cases hp : p_all d w none more with
      | nil => rfl
      | cons _ _ => exact absurd (this.mp (by rw [hp]; simp)) c
    rw [decide_eq_false c, this]
    rfl
theorem c_bin (hz : okS (x, d, w, hi, im, se)) (hon : p_on w 0 = true) : ∀ (m lo hi' i n : Nat) (V : xV), hi' ≤ lo + m + 1 → m < n → lo < p_nd d w → p_nd d w ≤ hi' → hi' ≤ 99 → hi' + i ≤ lo + 99 → Cls (x, d, w, hi, im, se) V → cHold V d w → ∃ V', f_X5_leastMore_L46 n (fun l1_19 l2_20 l3_21 V22 => some (l2_20, V22)) (nI lo) (nI hi') (nI i) V = some (nI (p_nd d w), V') ∧ Cls (x, d, w, hi, im, se) V' ∧ frC V V' := by
  intro m
  induction m with
  | zero =>
    intro lo hi' i n V hm hn h1 h2 h3 h4 h hh
    obtain ⟨n, rfl⟩ : ∃ q, n = q + 1 := ⟨n - 1, by omega⟩
    refine ⟨V, ?_, h, frC.rf⟩
    rw [f_X5_leastMore_L46, if_neg (by rw [i_le, i_n (by omega), show (99 : Int32).toInt = 99 from rfl]; omega), nI_1, if_pos (by rw [i_le, i_n (by omega), i_n (by omega)]; omega), show p_nd d w = hi' by omega]
  | succ m ih =>
    intro lo hi' i n V hm hn h1 h2 h3 h4 h hh
    obtain ⟨n, rfl⟩ : ∃ q, n = q + 1 := ⟨n - 1, by omega⟩
    rw [f_X5_leastMore_L46, if_neg (by rw [i_le, i_n (by omega), show (99 : Int32).toInt = 99 from rfl]; omega)]
    by_cases c : hi' ≤ lo + 1
    · refine ⟨V, ?_, h, frC.rf⟩
      rw [nI_1, if_pos (by rw [i_le, i_n (by omega), i_n (by omega)]; omega), show p_nd d w = hi' by omega]
    · obtain ⟨V1, e1, k1, f1, hh1⟩ := c_canZ hz h hh hon (more := (lo + hi') / 2) (by omega)
      rw [nI_1, if_neg (by rw [i_le, i_n (by omega), i_n (by omega)]; omega), i_mid (by omega) (by omega), e1, x_b2_some, nI_1]
      by_cases c2 : p_nd d w ≤ (lo + hi') / 2
      · rw [decide_eq_true c2, if_neg (by decide)]
        obtain ⟨V2, e2, k2, f2⟩ := ih lo ((lo + hi') / 2) (i + 1) n V1 (by omega) (by omega) h1 c2 (by omega) (by omega) k1 hh1
        exact ⟨V2, e2, k2, f1.tr f2⟩
      · rw [decide_eq_false c2, if_pos bI_f]
        obtain ⟨V2, e2, k2, f2⟩ := ih ((lo + hi') / 2) hi' (i + 1) n V1 (by omega) (by omega) (by omega) h2 h3 (by omega) k1 hh1
        exact ⟨V2, e2, k2, f1.tr f2⟩
end ND
theorem st_needed (z : sS) (hz : okS z) : stp f_X6_needed (fun F => f_X7_needed F) z := by
  obtain ⟨x, d, w, hi, im, se⟩ := z
  obtain ⟨o1, o2, o3, o4, o5, o6, o7, o8, o9⟩ := hz.split
  have h16 := o4.2.2.2.2.2.2
  refine stp.mk hz (if p_on w 0 then (if p_nd d w < 100 then nI (p_nd d w) else -9) else (if (p_best d w none).isSome then 0 else -9)) (fun V h => ?_) (fun V h => ?_)
  · obtain ⟨V1, e1, k1, f1, hh1⟩ := c_now hz h
    have on1 : f_X4_isOn_5 (0 : Int32) V1 = some (bI (p_on w 0), V1) := c_on (k1.2.2.1.2.2) h16 (by decide)
    unfold f_X6_needed f_X5_leastMore
    rw [e1, x_b2_some]
    cases hon : p_on w 0 with
    | false =>
      cases hb : p_best d w none with
      | none =>
        rw [if_pos ((oI_9 o3).mpr hb), on1, hon, x_b2_some, if_pos bI_f, x_b2_some]
        exact ⟨V1, rfl, k1, f1⟩
      | some q =>
        rw [if_neg (fun e => by rw [(oI_9 o3).mp e] at hb; cases hb), x_b2_some]
        exact ⟨V1, rfl, k1, f1⟩
    | true =>
      have am := all_more (d := d) (w := w) hon (more := 0) (by decide)
      by_cases hb : p_best d w none = none
      · have hnil := p_best_nil.mp hb
        have hpos : ¬ p_nd d w ≤ 0 := fun c => am.mpr c hnil
        rw [if_pos ((oI_9 o3).mpr hb), on1, hon, x_b2_some, if_neg (by decide)]
        obtain ⟨V2, e2, k2, f2, hh2⟩ := c_canZ hz k1 hh1 hon (more := 99) (by decide)
        rw [show f_X2_canBeFilled (6 : Int32) (99 : Int32) V1 = _ from e2, x_b2_some]
        by_cases c : p_nd d w ≤ 99
        · rw [decide_eq_true c, if_neg (by decide)]
          obtain ⟨V3, e3, k3, f3⟩ := c_bin hz hon 98 0 99 0 300 V2 (by decide) (by decide) (by omega) c (by decide) (by decide) k2 hh2
          rw [show f_X5_leastMore_L46 300 (fun l1_19 l2_20 l3_21 V22 => some (l2_20, V22)) (0 : Int32) (99 : Int32) (0 : Int32) V2 = _ from e3, x_b2_some]
          refine ⟨V3, ?_, k3, (f1.tr f2).tr f3⟩
          rw [if_pos rfl, if_pos (by omega)]
        · rw [decide_eq_false c, if_pos bI_f, x_b2_some]
          refine ⟨V2, ?_, k2, f1.tr f2⟩
          rw [if_pos rfl, if_neg (by omega)]
      · have hz0 : p_nd d w ≤ 0 := am.mp (fun e => hb (p_best_nil.mpr e))
        rw [if_neg (fun e => hb ((oI_9 o3).mp e)), x_b2_some]
        refine ⟨V1, ?_, k1, f1⟩
        rw [if_pos rfl, if_pos (by omega), show p_nd d w = 0 by omega]
        rfl
  · have mw : mW d (V 103) 0 w := h.2.2.1
    have e26 : (x_up V 96 0 0) 103 26 = nI w.2.2.2 := by
      rw [up_a (by decide)]
      have := mw.2.2
      rw [Nat.zero_add] at this
      exact this
    have on1 : f_X7_isOn (0 : Int32) (x_up V 96 0 0) = some (bI (p_on w 0), x_up V 96 0 0) := m_on e26 h16 (by decide)
    cases hon : p_on w 0 with
    | false =>
      obtain ⟨F, V', e, m, f, r⟩ := m_isPlan hz h.th
      refine ⟨F, V', ?_, m, frM.th.tr f⟩
      show f_X7_needed F V = _
      unfold f_X7_needed
      rw [on1, hon, x_b2_some, if_pos bI_f, e F (Nat.le_refl _), x_b2_some]
      cases hb : p_best d w none with
      | none => rfl
      | some q => rfl
    | true =>
      obtain ⟨F, V', e, f, r, r2⟩ := m_nd o3 o4 h.th.to (by rw [up_a (by decide)]; exact mw)
      refine ⟨F, V', ?_, h.th.fr f, frM.th.tr f.frM⟩
      show f_X7_needed F V = _
      unfold f_X7_needed
      rw [on1, hon, x_b2_some, if_neg (by decide), e F (Nat.le_refl _), x_b1_some, r, if_pos rfl]
      by_cases c : p_nd d w < 100
      · rw [if_neg (by rw [i_le, i_n (by omega), show (100 : Int32).toInt = 100 from rfl]; omega), if_pos c]
      · rw [if_pos (by rw [i_le, i_n (by omega), show (100 : Int32).toInt = 100 from rfl]; omega), if_neg c]
