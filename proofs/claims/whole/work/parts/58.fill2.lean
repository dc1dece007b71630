theorem qR.cg {d : sT} {any : Bool} {V V' : xV} {a : Option (Nat × List Nat)} (h : qR d any V a) (e1 : V' 76 = V 76) (e2 : V' 83 = V 83) : qR d any V' a := by
  unfold qR at *
  rw [e1, e2]
  exact h
theorem qF.up {V0 V : xV} (h : qF V0 V) {a k : Nat} {x : Int32} (ha : a = 81 ∨ a = 82 ∨ a = 83 ∨ a = 85) : qF V0 (x_up V a k x) :=
  ⟨fun b h1 h2 h3 h4 h5 => by rw [up_a (by omega)]; exact h.1 b h1 h2 h3 h4 h5, fun j h1 h2 h3 => by rw [up_a (by omega)]; exact h.2 j h1 h2 h3⟩
section CP
variable {d : sT} {op cp ru fo : Nat → Nat} {cf : Nat → Nat → Bool} {fr any : Bool} {V0 : xV} {al : Nat → Nat → Bool}
theorem qB.up85 {V : xV} {l : List Nat} (h : qB d op cp ru V0 V l) {x : Int32} {j : Nat} (hj : l.length ≤ j) : qB d op cp ru V0 (x_up V 85 j x) l := by
  obtain ⟨h1, h2, h3, h4, h5⟩ := h
  exact ⟨h1.up (by omega), fun i hi => by rw [up_a (by decide)]; exact h2 i hi, fun t ht => by rw [up_a (by decide)]; exact h3 t ht, h4.cg _ (fun i hi => up_k (by omega)), h5⟩
theorem c_be (hd : okT d) (h0 : qP d op cp ru fo fr any V0) (hr : q_ru d op cp ru) {V : xV} {l : List Nat} (hB : qB d op cp ru V0 V l) (hl : l.length < p_N d) : f_X2_changesBeside (nI l.length) V = some (nI (q_be d op cp ru l), V) := by
  have hN := p_N8 hd
  have hC1 := hd.2.2.2.1
  have hC2 := hd.2.2.2.2.1
  obtain ⟨h1, h2, h3, h4, h5, h6, h7, h8⟩ := h0.fr hB.1
  unfold f_X2_changesBeside
  rw [h2]
  by_cases hC : d.2.2.1 = 1
  · have eq : q_be d op cp ru l = 0 := by unfold q_be; rw [if_pos hC]
    rw [if_pos (by rw [hC]; rfl), eq]
    rfl
  · have hC : d.2.2.1 = 2 := by omega
    have hNe : p_N d = d.2.1 * 2 := by unfold p_N; rw [hC]
    rw [if_neg (by rw [hC]; decide)]
    cases l with
    | nil =>
      have eq : q_be d op cp ru [] = ru 1 - 1 := by unfold q_be; rw [if_neg (by omega)]
      have := (hr.2 1 (by have := hd.2.1; omega)).1
      rw [if_pos (show nI ([] : List Nat).length = 0 from rfl), h8 1 (by omega), show (1 : Int32) = nI 1 from rfl, pk_sub (by omega), eq]
    | cons u l' =>
      have eq : q_be d op cp ru (u :: l') = q_ca d op cp ru l' u := by unfold q_be; rw [if_neg (by omega)]
      rw [eq]
      rw [List.length_cons] at hl ⊢
      have em : nI (l'.length + 1) - 1 = nI l'.length := by rw [← nI_1, Int32.add_sub_cancel]
      rw [if_neg (by rw [i_eq, i_n (by omega), i_0]; omega), em, if_pos (x_inN (by omega) (by decide)), i_c (by omega), hB.2.2.2.1.1]
theorem c_left {V : xV} {l : List Nat} {t B : Nat} (hd : okT d) (h2 : V 2 2 = nI d.2.2.1) (h82 : ∀ i, i < l.length → V 82 i = nI (p_at l i)) (hx : ∀ x ∈ l, x < d.1) (hl : l.length < p_N d) (ht : t < d.1) (hch : p_ch d l ≤ B) (hB6 : B ≤ 100) (fl : Int32 → Int32 → Int32 → xV → Option xV) (m : Int32) : ∃ l6 : Int32, l6.toInt = (B : Int) - p_ch d l - p_c1 d l t ∧ f_X2_place fl (nI t) (nI l.length) (nI (B - p_ch d l)) m V = f_X2_place_J36 fl (nI t) (nI l.length) (nI (B - p_ch d l)) m (nI l.length - nI d.2.2.1) l6 V := by
  have hN := p_N8 hd
  have hT := hd.1
  have hC1 := hd.2.2.2.1
  have hC2 := hd.2.2.2.2.1
  unfold f_X2_place
  rw [h2]
  by_cases c1 : d.2.2.1 ≤ l.length
  · have hp : p_at l (l.length - d.2.2.1) < 6 := by
      have : p_at l (l.length - d.2.2.1) ∈ l := by
        unfold p_at
        rw [List.getD_eq_getElem?_getD, List.getElem?_eq_getElem (by omega)]
        exact List.getElem_mem _
      have := hx _ this
      omega
    have ec : p_c1 d l t = if p_at l (l.length - d.2.2.1) = t then 0 else 1 := by
      rw [p_c1_q hC1]
      unfold q_c
      rw [p_at_cons _ _ (by omega), p_at_top]
      by_cases c2 : p_at l (l.length - d.2.2.1) = t
      · rw [if_pos c2, if_neg (fun q => q.2 c2)]
      · rw [if_neg c2, if_pos ⟨c1, c2⟩]
    rw [if_neg (by rw [i_lt, i_s (by omega) (by omega), i_0]; omega), pk_sub c1, if_pos (x_inN (by omega) (by decide)), i_c (by omega), h82 _ (by omega)]
    by_cases c2 : p_at l (l.length - d.2.2.1) = t
    · rw [if_pos c2] at ec
      rw [if_pos (by rw [c2])]
      exact ⟨_, by rw [i_n (by omega)]; omega, rfl⟩
    · rw [if_neg c2] at ec
      rw [if_neg (fun q => c2 (i_inj (by omega) (by omega) q))]
      exact ⟨_, by rw [show (1 : Int32) = nI 1 from rfl, i_s (by omega) (by omega)]; omega, rfl⟩
  · have ec : p_c1 d l t = 0 := by
      unfold p_c1
      rw [if_neg (fun q => c1 q.1)]
    rw [if_pos (by rw [i_lt, i_s (by omega) (by omega), i_0]; omega)]
    exact ⟨_, by rw [i_n (by omega)]; omega, rfl⟩
set_option maxHeartbeats 1000000 in
theorem c_place (hd : okT d) (h0 : qP d op cp ru fo fr any V0) (ho : ∀ j, j < p_N d → op j < 64) (hcp : ∀ t, t < d.1 → cp t ≤ 1000) (hr : q_ru d op cp ru) {sw : Nat → Bool} {B : Nat} (hB6 : B ≤ 100) {V : xV} {l : List Nat} {a a' : Option (Nat × List Nat)} {t : Nat} (hB : qB d op cp ru V0 V l) (hl : l.length < p_N d) (ht : t < d.1) (hR : qR d any V a) (hch : p_ch d l ≤ B) (hmo : p_mo d l < q_lim any a) (hmo2 : p_mo d l ≤ 240) (hlim : q_lim any a ≤ 1000) (hbt : q_bt d op cf sw l t = true) {fl : Int32 → Int32 → Int32 → xV → Option xV}
    (hfl : q_ft d op cp ru cf sw any B a l t = true → ∀ V1, qB d op cp ru V0 V1 (t :: l) → qR d any V1 a → ∃ V2, fl (nI (l.length + 1)) (nI (B - p_ch d (t :: l))) (nI (p_mo d (t :: l))) V1 = some V2 ∧ qB d op cp ru V0 V2 (t :: l) ∧ qR d any V2 a') :
    ∃ V', f_X2_place fl (nI t) (nI l.length) (nI (B - p_ch d l)) (nI (p_mo d l)) V = some V' ∧ qB d op cp ru V0 V' l ∧ qR d any V' (if q_ft d op cp ru cf sw any B a l t then a' else a) := by
  have hN := p_N8 hd
  have hT := hd.1
  have hC1 := hd.2.2.2.1
  have hC2 := hd.2.2.2.2.1
  have hP := h0.fr hB.1
  obtain ⟨h1, h2, h3, h4, h5, h6, h7, h8⟩ := id hP
  obtain ⟨b1, b2, b3, b4, b5⟩ := id hB
  obtain ⟨l6, e6, ep⟩ := c_left hd h2 b2 b5 hl ht hch hB6 fl (nI (p_mo d l))
  rw [ep]
  have hsm := p_sm_le hd t l (by omega)
  have hlt := p_lt_le hd hl
  have hc := hcp t ht
  have hlv := q_lv_lt (d := d) (op := op) (cp := cp) t hC1 4 (l.length + d.2.2.1) (p_sm d l t + p_lt d l.length) (by omega)
  have hca : q_ca d op cp ru l t ≤ 1001 := q_ru_le hr _
  have hbe : q_be d op cp ru l ≤ 1001 := by
    unfold q_be
    split
    · omega
    · split
      · have := q_ru_le hr 1; omega
      · exact q_ru_le hr _
  have hc1 : p_ch d (t :: l) = p_ch d l + p_c1 d l t := rfl
  unfold f_X2_place_J36
  rw [if_pos (x_inN (by omega) (by decide)), if_pos (x_inN (by omega) (by decide)), i_c (by omega), i_c (by omega), b3 t ht, (h6 _ hl).2, (h7 t ht).1, nI_add, hR.1]
  by_cases c1 : B < p_ch d l + p_c1 d l t
  · have hf : q_ft d op cp ru cf sw any B a l t = false := by
      have : decide (p_ch d l + p_c1 d l t ≤ B) = false := decide_eq_false (by omega)
      simp [q_ft, this]
    rw [if_pos (by rw [i_lt, e6, i_0]; omega), hf]
    exact ⟨V, rfl, hB, hR⟩
  rw [if_neg (by rw [i_lt, e6, i_0]; omega)]
  by_cases c2 : cp t < p_sm d l t + p_lt d l.length
  · have hf : q_ft d op cp ru cf sw any B a l t = false := by
      have : decide (p_sm d l t + p_lt d l.length ≤ cp t) = false := decide_eq_false (by omega)
      simp [q_ft, this]
    rw [if_pos (by rw [i_lt, i_n (by omega), i_n (by omega)]; omega), hf]
    exact ⟨V, rfl, hB, hR⟩
  rw [if_neg (by rw [i_lt, i_n (by omega), i_n (by omega)]; omega)]
  by_cases c3 : p_sm d l t + p_lt d l.length < q_lim any a
  case neg =>
    have hf : q_ft d op cp ru cf sw any B a l t = false := by
      have : decide (p_sm d l t + p_lt d l.length < q_lim any a) = false := decide_eq_false (by omega)
      simp [q_ft, this]
    rw [if_neg (by rw [i_lt, i_n (by omega), i_n (by omega)]; omega), hf]
    exact ⟨V, rfl, hB, hR⟩
  rw [if_pos (by rw [i_lt, i_n (by omega), i_n (by omega)]; omega), c_leaves hd hP ho hcp ht hl (by omega), x_b2_some, if_pos (x_inN (by omega) (by decide)), i_c (by omega), h8 _ hlv]
  have hB1 : qB d op cp ru V0 (x_up V 85 l.length (nI (q_ca d op cp ru l t))) l := hB.up85 (Nat.le_refl _)
  rw [show ru (q_lv d op cp t 4 (l.length + d.2.2.1) (p_sm d l t + p_lt d l.length)) = q_ca d op cp ru l t from rfl, c_be hd h0 hr hB1 hl, x_b2_some, up_eq, nI_add]
  have tI : (nI (q_ca d op cp ru l t + q_be d op cp ru l)).toInt = ((q_ca d op cp ru l t + q_be d op cp ru l : Nat) : Int) := nI_toInt (by omega)
  by_cases c4 : B < p_ch d (t :: l) + q_ca d op cp ru l t + q_be d op cp ru l
  · have hf : q_ft d op cp ru cf sw any B a l t = false := by
      have : decide (p_ch d (t :: l) + q_ca d op cp ru l t + q_be d op cp ru l ≤ B) = false := decide_eq_false (by omega)
      simp [q_ft, this]
    rw [if_pos (by rw [i_lt, tI, e6]; omega), hf]
    exact ⟨_, rfl, hB1, hR.cg (up_a (by decide)) (up_a (by decide))⟩
  have hf : q_ft d op cp ru cf sw any B a l t = true := by
    simp only [q_ft, Bool.and_eq_true, decide_eq_true_eq]
    exact ⟨⟨⟨⟨⟨hmo, hbt⟩, by omega⟩, by omega⟩, c3⟩, by omega⟩
  have e6' : l6 = nI (B - p_ch d (t :: l)) := by rw [i_eq, e6, i_n (by omega)]; omega
  have hs : p_sm d (t :: l) t = p_sm d l t + p_lt d l.length := by rw [p_sm, if_pos rfl]
  have emo : (if nI (p_mo d l) < nI (p_sm d l t + p_lt d l.length) then nI (p_sm d l t + p_lt d l.length) else nI (p_mo d l)) = nI (p_mo d (t :: l)) := by
    have : p_mo d (t :: l) = max (p_mo d l) (p_sm d l t + p_lt d l.length) := by rw [p_mo, hs]
    rw [this]
    by_cases q : p_mo d l < p_sm d l t + p_lt d l.length
    · rw [if_pos (by rw [i_lt, i_n (by omega), i_n (by omega)]; omega), Nat.max_eq_right (by omega)]
    · rw [if_neg (by rw [i_lt, i_n (by omega), i_n (by omega)]; omega), Nat.max_eq_left (by omega)]
  rw [if_neg (by rw [i_lt, tI, e6]; omega), nI_1, e6', emo, hf]
  have hB2 : qB d op cp ru V0 (x_up (x_up (x_up V 85 l.length (nI (q_ca d op cp ru l t))) 82 l.length (nI t)) 81 t (nI (p_sm d l t + p_lt d l.length))) (t :: l) := by
    refine ⟨((hB1.1).up (by omega)).up (by omega), fun i hi => ?_, fun u hu => ?_, ⟨?_, ?_⟩, fun x hx => ?_⟩
    · rw [up_a (by decide)]
      by_cases hi2 : i = l.length
      · subst hi2
        rw [up_eq, p_at_top]
      · rw [List.length_cons] at hi
        rw [up_k hi2, up_a (by decide), b2 i (by omega), p_at_cons _ _ (by omega)]
    · by_cases hut : u = t
      · subst hut
        rw [up_eq, hs]
      · rw [up_k hut, up_a (by decide), up_a (by decide), b3 u hu, p_sm, if_neg (fun q => hut q.symm), Nat.add_zero]
    · rw [up_a (by decide), up_a (by decide), up_eq]
    · exact b4.cg _ (fun i hi => by rw [up_a (by decide), up_a (by decide), up_k (by omega)])
    · rcases List.mem_cons.mp hx with rfl | hx
      · exact ht
      · exact b5 x hx
  obtain ⟨V2, e2, hB3, hR3⟩ := hfl hf _ hB2 (hR.cg (by rw [up_a (by decide), up_a (by decide), up_a (by decide)]) (by rw [up_a (by decide), up_a (by decide), up_a (by decide)]))
  rw [e2, x_b1_some]
  refine ⟨_, rfl, ?_, hR3.cg (up_a (by decide)) (up_a (by decide))⟩
  obtain ⟨g1, g2, g3, g4, g5⟩ := hB3
  refine ⟨g1.up (by omega), fun i hi => ?_, fun u hu => ?_, ?_, b5⟩
  · rw [up_a (by decide), g2 i (by rw [List.length_cons]; omega), p_at_cons _ _ hi]
  · by_cases hut : u = t
    · subst hut
      rw [up_eq]
    · rw [up_k hut, g3 u hu, p_sm, if_neg (fun q => hut q.symm), Nat.add_zero]
  · exact g4.2.cg _ (fun i hi => by rw [up_a (by decide)])
end CP
