/-! the reference's search, as gd -/
theorem p_at_cons (t : Nat) (l : List Nat) {i : Nat} (h : i < l.length) : p_at (t :: l) i = p_at l i := by
  unfold p_at
  rw [List.length_cons, show l.length + 1 - 1 - i = (l.length - 1 - i) + 1 by omega]
  rfl
theorem p_at_top (t : Nat) (l : List Nat) : p_at (t :: l) l.length = t := by
  unfold p_at
  rw [List.length_cons, show l.length + 1 - 1 - l.length = 0 by omega]
  rfl
theorem div_lt_S {d : sT} (hd : okT d) {j : Nat} (hj : j < p_N d) : j / d.2.2.1 < d.2.1 := by
  obtain ⟨-, -, -, h, -⟩ := hd
  exact (Nat.div_lt_iff_lt_mul (by omega)).mpr hj
theorem p_lt_le {d : sT} (hd : okT d) {j : Nat} (hj : j < p_N d) : p_lt d j ≤ 30 := hd.2.2.2.2.2.2 _ (div_lt_S hd hj)
theorem p_sm_le {d : sT} (hd : okT d) (t : Nat) : ∀ l : List Nat, l.length ≤ p_N d → p_sm d l t ≤ 30 * l.length := by
  intro l
  induction l with
  | nil => intro _; exact Nat.le_refl _
  | cons x l ih =>
    intro h
    rw [List.length_cons] at h ⊢
    have h1 := ih (by omega)
    have h2 := p_lt_le hd (j := l.length) (by omega)
    simp only [p_sm]
    split <;> omega
theorem p_ch_le (d : sT) : ∀ l : List Nat, p_ch d l ≤ l.length := by
  intro l
  induction l with
  | nil => exact Nat.le_refl _
  | cons x l ih =>
    simp only [p_ch, List.length_cons, p_c1]
    split <;> omega
def mFr (V0 V : xV) : Prop := (∀ a, a ≠ 96 → a ≠ 108 → a ≠ 109 → a ≠ 110 → a ≠ 111 → V a = V0 a) ∧ ∀ k, k ≠ 32 → k ≠ 33 → V 96 k = V0 96 k
theorem mFr.up {V0 V : xV} (h : mFr V0 V) {a k : Nat} {x : Int32} (ha : a = 108 ∨ a = 109 ∨ a = 110 ∨ a = 111) : mFr V0 (x_up V a k x) := by
  refine ⟨fun b h1 h2 h3 h4 h5 => ?_, fun j h1 h2 => ?_⟩
  · rw [up_a (by omega)]; exact h.1 b h1 h2 h3 h4 h5
  · rw [up_a (by omega)]; exact h.2 j h1 h2
def mBs (d : sT) (V0 V : xV) (l : List Nat) : Prop := mFr V0 V ∧ (∀ i, i < l.length → V 108 i = nI (p_at l i)) ∧ (∀ i, i ≤ l.length → V 109 i = nI (p_ch d (l.drop (l.length - i)))) ∧ (∀ t, t < 6 → V 110 t = nI (p_sm d l t)) ∧ ∀ x ∈ l, x < d.1
def tcont (F : Nat) (l1 l2 : Int32) (n : Nat) (k : Int32 → xV → Option xV) (l3 : Int32) : xV → Option xV := fun V15 => if (V15 108 (l3.toNatClampNeg)) = (V15 96 8) then (f_X7_tries_L59 F l1 l2 n k (l3 + (-1 : Int32)) V15) else (if x_in (V15 108 (l3.toNatClampNeg)) 6 = true then (if (V15 96 10) = 0 then none else (if x_in (l3 / (V15 96 10)) 4 = true then (if x_in l3 9 = true then (x_b2 (f_X7_changeAt l3 (x_up V15 110 ((V15 108 (l3.toNatClampNeg)).toNatClampNeg) ((V15 110 ((V15 108 (l3.toNatClampNeg)).toNatClampNeg)) + (V15 98 ((l3 / (V15 96 10)).toNatClampNeg))))) (fun x22 V21 => if x_in (l3 + 1) 9 = true then (if l3 = (((V21 96 9) * (V21 96 10)) - 1) then (x_b1 (f_X7_weighs l2 (x_up V21 109 ((l3 + 1).toNatClampNeg) ((V15 109 (l3.toNatClampNeg)) + x22))) (fun V27 => f_X7_tries_L59 F l1 l2 n k l3 V27)) else (if x_in (l3 + (1 : Int32)) 8 = true then (f_X7_tries_L59 F l1 l2 n k (l3 + (1 : Int32)) (x_up (x_up V21 109 ((l3 + 1).toNatClampNeg) ((V15 109 (l3.toNatClampNeg)) + x22)) 108 ((l3 + (1 : Int32)).toNatClampNeg) (-1 : Int32))) else none)) else none)) else none) else none)) else none)
section MT
variable {d : sT} {w : sW} {V0 : xV} {F : Nat} {b nd : Int32}
theorem m_L59eq (n : Nat) (K : Int32 → xV → Option xV) (l3 : Int32) (V : xV) : f_X7_tries_L59 F b nd (n + 1) K l3 V = if l3 < 0 then (K l3 V) else (if x_in l3 8 = true then (if (V 108 (l3.toNatClampNeg)) < 0 then (f_X7_tries_L107 F b nd l3 300 (tcont F b nd n K l3) (x_up V 108 (l3.toNatClampNeg) ((V 108 (l3.toNatClampNeg)) + 1))) else (if x_in (V 108 (l3.toNatClampNeg)) 6 = true then (if (V 96 10) = 0 then none else (if x_in (l3 / (V 96 10)) 4 = true then (f_X7_tries_L107 F b nd l3 300 (tcont F b nd n K l3) (x_up (x_up V 110 ((V 108 (l3.toNatClampNeg)).toNatClampNeg) ((V 110 ((V 108 (l3.toNatClampNeg)).toNatClampNeg)) - (V 98 ((l3 / (V 96 10)).toNatClampNeg)))) 108 (l3.toNatClampNeg) ((V 108 (l3.toNatClampNeg)) + 1))) else none)) else none)) else none) := by
  rw [f_X7_tries_L59]
  rfl
/-- at a place whose pick is -1: the first thing -/
theorem m_L59a (hd : okT d) {V : xV} {j : Nat} (hj : j < 8) (hp : V 108 j = -1) (n : Nat) (K : Int32 → xV → Option xV) : f_X7_tries_L59 F b nd (n + 1) K (nI j) V = f_X7_tries_L107 F b nd (nI j) 300 (tcont F b nd n K (nI j)) (x_up V 108 j (nI 0)) := by
  rw [m_L59eq, if_neg (by rw [i_lt, i_n (by omega), i_0]; omega), if_pos (x_inN hj (by decide)), i_c (by omega), hp, if_pos (by decide), show (-1 : Int32) + 1 = nI 0 by decide]
/-- at a place whose thing has been tried: it is taken away, the next one -/
theorem m_L59b (hd : okT d) (h10 : ∀ V, mFr V0 V → V 96 10 = nI d.2.2.1) {V : xV} (hf : mFr V0 V) {j t : Nat} (hj : j < p_N d) (ht : t < 6) (hp : V 108 j = nI t) (n : Nat) (K : Int32 → xV → Option xV) : f_X7_tries_L59 F b nd (n + 1) K (nI j) V = f_X7_tries_L107 F b nd (nI j) 300 (tcont F b nd n K (nI j)) (x_up (x_up V 110 t (V 110 t - V 98 (j / d.2.2.1))) 108 j (nI (t + 1))) := by
  have hN : p_N d ≤ 8 := Nat.le_trans (Nat.mul_le_mul hd.2.2.1 hd.2.2.2.2.1) (by decide)
  have hC1 := hd.2.2.2.1
  have hC2 := hd.2.2.2.2.1
  have hS := div_lt_S hd hj
  have hS4 := hd.2.2.1
  rw [m_L59eq, if_neg (by rw [i_lt, i_n (by omega), i_0]; omega), if_pos (x_inN (by omega) (by decide)), i_c (by omega), hp, if_neg (by rw [i_lt, i_n (by omega), i_0]; omega), if_pos (x_inN ht (by decide)), h10 V hf, if_neg (by rw [i_eq, i_n (by omega), i_0]; omega), pk_div (by omega) (by omega) (by omega), if_pos (x_inN (by omega) (by decide)), i_c (by omega), i_c (by omega), nI_1]
theorem m_changeAt (hd : okT d) (h10 : V0 96 10 = nI d.2.2.1) {V : xV} (hf : mFr V0 V) {l : List Nat} {t : Nat} (hl : l.length < 8) (ht : t < 6) (hlt : ∀ x ∈ l, x < d.1) (hp : ∀ i, i < l.length → V 108 i = nI (p_at l i)) (hpt : V 108 l.length = nI t) : f_X7_changeAt (nI l.length) V = some (nI (p_c1 d l t), V) := by
  have hC1 := hd.2.2.2.1
  have hC2 := hd.2.2.2.2.1
  have hT := hd.1
  unfold f_X7_changeAt p_c1
  rw [hf.2 10 (by decide) (by decide), h10]
  by_cases hc : d.2.2.1 ≤ l.length
  · rw [if_neg (by rw [i_lt, i_n (by omega), i_n (by omega)]; omega), if_pos (x_inN hl (by decide)), pk_sub hc, if_pos (x_inN (by omega) (by decide)), i_c (by omega), i_c (by omega), hpt, hp _ (by omega)]
    have e1 : l[d.2.2.1 - 1]? = some (p_at l (l.length - d.2.2.1)) := by
      unfold p_at
      rw [show l.length - 1 - (l.length - d.2.2.1) = d.2.2.1 - 1 by omega, List.getD_eq_getElem?_getD]
      have : d.2.2.1 - 1 < l.length := by omega
      rw [List.getElem?_eq_getElem this]
      rfl
    have hx : p_at l (l.length - d.2.2.1) < d.1 := hlt _ (List.mem_of_getElem? e1)
    rw [e1]
    by_cases he : t = p_at l (l.length - d.2.2.1)
    · rw [if_pos (by rw [← he]), if_neg (by rw [← he]; simp)]
      rfl
    · rw [if_neg (fun q => he (i_inj (by omega) (by omega) q)), if_pos ⟨hc, fun q => he (Option.some.inj q).symm⟩]
      rfl
  · rw [if_pos (by rw [i_lt, i_n (by omega), i_n (by omega)]; omega), if_neg (fun q => hc q.1)]
    rfl
theorem mBs.pick {V : xV} {l : List Nat} (h : mBs d V0 V l) {x : Int32} {j : Nat} (hj : l.length ≤ j) : mBs d V0 (x_up V 108 j x) l := by
  obtain ⟨h1, h2, h3, h4, h5⟩ := h
  exact ⟨h1.up (by omega), fun i hi => by rw [up_k (by omega)]; exact h2 i hi, fun i hi => by rw [up_a (by decide)]; exact h3 i hi, fun t ht => by rw [up_a (by decide)]; exact h4 t ht, h5⟩
/-- a thing is put -/
theorem mBs.put (hd : okT d) (h0 : mTo V0 d) {V : xV} {l : List Nat} (h : mBs d V0 V l) {t : Nat} (ht : t < d.1) (hl : l.length < p_N d) (hp : V 108 l.length = nI t) : mBs d V0 (x_up (x_up V 110 t (V 110 t + V 98 (l.length / d.2.2.1))) 109 (l.length + 1) (V 109 l.length + nI (p_c1 d l t))) (t :: l) := by
  obtain ⟨h1, h2, h3, h4, h5⟩ := h
  have hT := hd.1
  refine ⟨(h1.up (by omega)).up (by omega), fun i hi => ?_, fun i hi => ?_, fun u hu => ?_, fun x hx => ?_⟩
  · rw [up_a (by decide), up_a (by decide)]
    rw [List.length_cons] at hi
    by_cases he : i = l.length
    · subst he
      rw [p_at_top]
      exact hp
    · rw [p_at_cons t l (by omega)]
      exact h2 i (by omega)
  · rw [List.length_cons] at hi ⊢
    by_cases he : i = l.length + 1
    · subst he
      rw [up_eq, Nat.sub_self, List.drop_zero, h3 _ (Nat.le_refl _), Nat.sub_self, List.drop_zero, nI_add]
      rfl
    · rw [up_k he, up_a (by decide), h3 i (by omega), show l.length + 1 - i = (l.length - i) + 1 by omega]
      rfl
  · rw [up_a (by decide)]
    simp only [p_sm]
    by_cases he : u = t
    · subst he
      rw [up_eq, h4 u hu, h1.1 98 (by decide) (by decide) (by decide) (by decide) (by decide), h0.2.2.2.2 _ (div_lt_S hd hl), nI_add, if_pos rfl]
      rfl
    · rw [up_k he, h4 u hu, if_neg (Ne.symm he), Nat.add_zero]
  · rcases List.mem_cons.mp hx with rfl | hx
    · exact ht
    · exact h5 x hx
/-- and taken away -/
theorem mBs.off (hd : okT d) (h0 : mTo V0 d) {V : xV} {l : List Nat} {t : Nat} (h : mBs d V0 V (t :: l)) (hl : l.length < p_N d) {x : Int32} : mBs d V0 (x_up (x_up V 110 t (V 110 t - V 98 (l.length / d.2.2.1))) 108 l.length x) l := by
  obtain ⟨h1, h2, h3, h4, h5⟩ := h
  have hT := hd.1
  have htT : t < d.1 := h5 t List.mem_cons_self
  refine ⟨(h1.up (by omega)).up (by omega), fun i hi => ?_, fun i hi => ?_, fun u hu => ?_, fun x hx => h5 x (List.mem_cons_of_mem _ hx)⟩
  · rw [up_k (by omega), up_a (by decide), h2 i (by rw [List.length_cons]; omega), p_at_cons t l hi]
  · rw [up_a (by decide), up_a (by decide), h3 i (by rw [List.length_cons]; omega), List.length_cons, show l.length + 1 - i = (l.length - i) + 1 by omega]
    rfl
  · rw [up_a (by decide)]
    have e := h4 u hu
    simp only [p_sm] at e
    by_cases he : u = t
    · subst he
      rw [if_pos rfl] at e
      rw [up_eq, e, h1.1 98 (by decide) (by decide) (by decide) (by decide) (by decide), h0.2.2.2.2 _ (div_lt_S hd hl)]
      show nI (p_sm d l u + p_lt d l.length) - nI (p_lt d l.length) = _
      rw [pk_sub (by omega), Nat.add_sub_cancel]
    · rw [if_neg (Ne.symm he), Nat.add_zero] at e
      rw [up_k he, e]
end MT
section MD
variable {A : Type} {d : sT} {w : sW} {V0 : xV} {F : Nat} {b nd : Int32} {Ra : xV → A → Prop} {ft : A → List Nat → Nat → Bool} {up : A → List Nat → A}
set_option maxHeartbeats 4000000 in
theorem m_dfs (hd : okT d) (h0 : mTo V0 d) (hRa : ∀ V V' a, (∀ k, k = 32 ∨ k = 33 → V' 96 k = V 96 k) → V' 111 = V 111 → Ra V a → Ra V' a)
    (hfit : ∀ V l t a, mBs d V0 V l → l.length < p_N d → t < d.1 → V 108 l.length = nI t → Ra V a → f_X7_fits (nI l.length) b nd V = some (bI (ft a l t), V))
    (hwgh : ∀ V l a, mBs d V0 V l → l.length = p_N d → Ra V a → (∀ l' t, l = t :: l' → ft a l' t = true) → ∃ V', f_X7_weighs nd V = some V' ∧ mBs d V0 V' l ∧ Ra V' (up a l)) :
    ∀ (k : Nat) (l : List Nat), l.length + (k + 1) = p_N d → ∀ (m s : Nat) (V : xV) (a : A), m + s = d.1 → mBs d V0 V l → V 108 l.length = nI s → Ra V a → ∀ fl, m < fl → ∃ V' q, mBs d V0 V' l ∧ Ra V' ((List.range' s m).foldl (fun a t => if ft a l t then gd d.1 ft up k (t :: l) a else a) a) ∧ ∀ n K, f_X7_tries_L107 F b nd (nI l.length) fl (tcont F b nd (n + q) K (nI l.length)) V = f_X7_tries_L59 F b nd n K (nI l.length + (-1)) V' := by
  have hN : p_N d ≤ 8 := Nat.le_trans (Nat.mul_le_mul hd.2.2.1 hd.2.2.2.2.1) (by decide)
  have hT := hd.1
  have hC1 := hd.2.2.2.1
  have hC2 := hd.2.2.2.2.1
  have hS4 := hd.2.2.1
  have h8 : ∀ V, mFr V0 V → V 96 8 = nI d.1 := fun V h => (h.2 8 (by decide) (by decide)).trans h0.1
  have h10 : ∀ V, mFr V0 V → V 96 10 = nI d.2.2.1 := fun V h => (h.2 10 (by decide) (by decide)).trans h0.2.2.1
  have h9 : ∀ V, mFr V0 V → V 96 9 = nI d.2.1 := fun V h => (h.2 9 (by decide) (by decide)).trans h0.2.1
  intro k
  induction k with
  | zero =>
    intro l hl m
    have hj : l.length < p_N d := by omega
    have hdiv := div_lt_S hd hj
    induction m with
    | zero =>
      intro s V a hs hB hp hR fl hfl
      obtain ⟨fl, rfl⟩ : ∃ q, fl = q + 1 := ⟨fl - 1, by omega⟩
      obtain rfl : s = d.1 := by omega
      refine ⟨V, 0, hB, hR, fun n K => ?_⟩
      rw [f_X7_tries_L107, if_pos (x_inN (by omega) (by decide)), i_c (by omega), hp, h8 V hB.1, if_pos (by rw [i_le]; exact Int.le_refl _)]
      unfold tcont
      rw [i_c (by omega), hp, h8 V hB.1, if_pos rfl]
      rfl
    | succ m ih =>
      intro s V a hs hB hp hR fl hfl
      obtain ⟨fl, rfl⟩ : ∃ q, fl = q + 1 := ⟨fl - 1, by omega⟩
      have hfv := hfit V l s a hB hj (by omega) hp hR
      cases hft : ft a l s with
      | false =>
        rw [hft] at hfv
        obtain ⟨V', q, e1, e2, e3⟩ := ih (s + 1) (x_up V 108 l.length (nI (s + 1))) a (by omega) (hB.pick (Nat.le_refl _)) up_eq (hRa V _ a (fun _ _ => by rw [up_a (by decide)]) (up_a (by decide)) hR) fl (by omega)
        refine ⟨V', q, e1, ?_, fun n K => ?_⟩
        · rw [List.range'_succ, List.foldl_cons, hft]
          exact e2
        · rw [f_X7_tries_L107, if_pos (x_inN (by omega) (by decide)), i_c (by omega), hp, h8 V hB.1, if_neg (by rw [i_le, i_n (by omega), i_n (by omega)]; omega), hfv, x_b2_some, if_pos (by rfl), hp, nI_1]
          exact e3 n K
      | true =>
        rw [hft] at hfv
        have hch := m_changeAt (V := x_up V 110 s (V 110 s + V 98 (l.length / d.2.2.1))) hd h0.2.2.1 (hB.1.up (by omega)) (l := l) (t := s) (by omega) (by omega) hB.2.2.2.2 (fun i hi => by rw [up_a (by decide)]; exact hB.2.1 i hi) (by rw [up_a (by decide)]; exact hp)
        have hB2 := hB.put hd h0 (t := s) (by omega) hj hp
        generalize hV2 : x_up (x_up V 110 s (V 110 s + V 98 (l.length / d.2.2.1))) 109 (l.length + 1) (V 109 l.length + nI (p_c1 d l s)) = V2 at hB2
        have hR2 : Ra V2 a := hRa V _ a (fun _ _ => by rw [← hV2, up_a (by decide), up_a (by decide)]) (by rw [← hV2, up_a (by decide), up_a (by decide)]) hR
        obtain ⟨V3, w1, w2, w3⟩ := hwgh V2 (s :: l) a hB2 (by rw [List.length_cons]; omega) hR2 (fun l' t e => by cases e; exact hft)
        have hp3 : V3 108 l.length = nI s := by rw [w2.2.1 l.length (by rw [List.length_cons]; omega), p_at_top]
        have hB4 := w2.off hd h0 hj (x := nI (s + 1))
        obtain ⟨V', q, e1, e2, e3⟩ := ih (s + 1) _ (up a (s :: l)) (by omega) hB4 up_eq (hRa V3 _ _ (fun _ _ => by rw [up_a (by decide), up_a (by decide)]) (by rw [up_a (by decide), up_a (by decide)]) w3) 300 (by omega)
        refine ⟨V', q + 1, e1, ?_, fun n K => ?_⟩
        · rw [List.range'_succ, List.foldl_cons, hft]
          exact e2
        · rw [f_X7_tries_L107, if_pos (x_inN (by omega) (by decide)), i_c (by omega), hp, h8 V hB.1, if_neg (by rw [i_le, i_n (by omega), i_n (by omega)]; omega), hfv, x_b2_some, if_neg (by decide)]
          unfold tcont
          rw [i_c (by omega), hp, h8 V hB.1, if_neg (by rw [i_eq, i_n (by omega), i_n (by omega)]; omega), if_pos (x_inN (by omega) (by decide)), h10 V hB.1, if_neg (by rw [i_eq, i_n (by omega), i_0]; omega), pk_div (by omega) (by omega) (by omega), if_pos (x_inN (by omega) (by decide)), if_pos (x_inN (by omega) (by decide)), i_c (by omega), i_c (by omega), hch, x_b2_some, nI_1, if_pos (x_inN (by omega) (by decide)), i_c (by omega), hV2, up_a (by decide), h9 V hB.1, h10 V hB.1, pk_mul, if_pos (by rw [show (1 : Int32) = nI 1 from rfl, pk_sub (by show 1 ≤ p_N d; omega)]; show nI l.length = nI (p_N d - 1); rw [show p_N d - 1 = l.length by omega]), w1, x_b1_some, show n + (q + 1) = (n + q) + 1 by omega, m_L59b hd h10 w2.1 hj (by omega) hp3]
          exact e3 n K
  | succ k ihk =>
    intro l hl m
    have hj : l.length < p_N d := by omega
    have hdiv := div_lt_S hd hj
    induction m with
    | zero =>
      intro s V a hs hB hp hR fl hfl
      obtain ⟨fl, rfl⟩ : ∃ q, fl = q + 1 := ⟨fl - 1, by omega⟩
      obtain rfl : s = d.1 := by omega
      refine ⟨V, 0, hB, hR, fun n K => ?_⟩
      rw [f_X7_tries_L107, if_pos (x_inN (by omega) (by decide)), i_c (by omega), hp, h8 V hB.1, if_pos (by rw [i_le]; exact Int.le_refl _)]
      unfold tcont
      rw [i_c (by omega), hp, h8 V hB.1, if_pos rfl]
      rfl
    | succ m ih =>
      intro s V a hs hB hp hR fl hfl
      obtain ⟨fl, rfl⟩ : ∃ q, fl = q + 1 := ⟨fl - 1, by omega⟩
      have hfv := hfit V l s a hB hj (by omega) hp hR
      cases hft : ft a l s with
      | false =>
        rw [hft] at hfv
        obtain ⟨V', q, e1, e2, e3⟩ := ih (s + 1) (x_up V 108 l.length (nI (s + 1))) a (by omega) (hB.pick (Nat.le_refl _)) up_eq (hRa V _ a (fun _ _ => by rw [up_a (by decide)]) (up_a (by decide)) hR) fl (by omega)
        refine ⟨V', q, e1, ?_, fun n K => ?_⟩
        · rw [List.range'_succ, List.foldl_cons, hft]
          exact e2
        · rw [f_X7_tries_L107, if_pos (x_inN (by omega) (by decide)), i_c (by omega), hp, h8 V hB.1, if_neg (by rw [i_le, i_n (by omega), i_n (by omega)]; omega), hfv, x_b2_some, if_pos (by rfl), hp, nI_1]
          exact e3 n K
      | true =>
        rw [hft] at hfv
        have hch := m_changeAt (V := x_up V 110 s (V 110 s + V 98 (l.length / d.2.2.1))) hd h0.2.2.1 (hB.1.up (by omega)) (l := l) (t := s) (by omega) (by omega) hB.2.2.2.2 (fun i hi => by rw [up_a (by decide)]; exact hB.2.1 i hi) (by rw [up_a (by decide)]; exact hp)
        have hB2 := hB.put hd h0 (t := s) (by omega) hj hp
        generalize hV2 : x_up (x_up V 110 s (V 110 s + V 98 (l.length / d.2.2.1))) 109 (l.length + 1) (V 109 l.length + nI (p_c1 d l s)) = V2 at hB2
        have hR2 : Ra V2 a := hRa V _ a (fun _ _ => by rw [← hV2, up_a (by decide), up_a (by decide)]) (by rw [← hV2, up_a (by decide), up_a (by decide)]) hR
        have hl2 : (s :: l).length = l.length + 1 := List.length_cons
        have hB3 : mBs d V0 (x_up (x_up V2 108 (l.length + 1) (-1)) 108 (l.length + 1) (nI 0)) (s :: l) := (hB2.pick (by omega)).pick (by omega)
        obtain ⟨V4, q1, w2, w3, w4⟩ := ihk (s :: l) (by omega) d.1 0 _ a (by omega) hB3 (by rw [hl2]; exact up_eq) (hRa V2 _ a (fun _ _ => by rw [up_a (by decide), up_a (by decide)]) (by rw [up_a (by decide), up_a (by decide)]) hR2) 300 (by omega)
        rw [← List.range_eq_range'] at w3
        have hp4 : V4 108 l.length = nI s := by rw [w2.2.1 l.length (by omega), p_at_top]
        have hB5 := w2.off hd h0 hj (x := nI (s + 1))
        obtain ⟨V', q, e1, e2, e3⟩ := ih (s + 1) _ (gd d.1 ft up (k + 1) (s :: l) a) (by omega) hB5 up_eq (hRa V4 _ _ (fun _ _ => by rw [up_a (by decide), up_a (by decide)]) (by rw [up_a (by decide), up_a (by decide)]) w3) 300 (by omega)
        refine ⟨V', q + 1 + q1 + 1, e1, ?_, fun n K => ?_⟩
        · rw [List.range'_succ, List.foldl_cons, hft]
          exact e2
        · rw [f_X7_tries_L107, if_pos (x_inN (by omega) (by decide)), i_c (by omega), hp, h8 V hB.1, if_neg (by rw [i_le, i_n (by omega), i_n (by omega)]; omega), hfv, x_b2_some, if_neg (by decide)]
          unfold tcont
          rw [i_c (by omega), hp, h8 V hB.1, if_neg (by rw [i_eq, i_n (by omega), i_n (by omega)]; omega), if_pos (x_inN (by omega) (by decide)), h10 V hB.1, if_neg (by rw [i_eq, i_n (by omega), i_0]; omega), pk_div (by omega) (by omega) (by omega), if_pos (x_inN (by omega) (by decide)), if_pos (x_inN (by omega) (by decide)), i_c (by omega), i_c (by omega), hch, x_b2_some, nI_1, if_pos (x_inN (by omega) (by decide)), i_c (by omega), hV2, up_a (by decide), h9 V hB.1, h10 V hB.1, pk_mul, if_neg (by rw [show (1 : Int32) = nI 1 from rfl, pk_sub (by show 1 ≤ p_N d; omega)]; intro z; have := i_inj (by omega) (by show p_N d - 1 < 2000; omega) z; have : p_N d - 1 = l.length := this.symm; omega), if_pos (x_inN (by omega) (by decide)), show n + (q + 1 + q1 + 1) = (n + (q + 1) + q1) + 1 by omega, m_L59a hd (by omega) up_eq]
          rw [hl2] at w4
          rw [w4 (n + (q + 1)) K, show nI (l.length + 1) + (-1) = nI l.length from pk_m1 _, show n + (q + 1) = (n + q) + 1 by omega, m_L59b hd h10 w2.1 hj (by omega) hp4]
          exact e3 n K
end MD
