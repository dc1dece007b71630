theorem p_mo_le {d : sT} (hd : okT d) : ∀ l : List Nat, l.length ≤ p_N d → p_mo d l ≤ 240 := by
  have hN := p_N8 hd
  intro l
  induction l with
  | nil => intro _; exact Nat.zero_le _
  | cons x l ih =>
    intro h
    have q1 := p_sm_le hd x (x :: l) h
    rw [List.length_cons] at h q1
    have q2 := ih (by omega)
    simp only [p_mo]
    omega
section CFL
variable {d : sT} {op cp ru fo : Nat → Nat} {cf : Nat → Nat → Bool} {fr any : Bool} {V0 : xV}
theorem qR.lim {V : xV} {a : Option (Nat × List Nat)} (h : qR d any V a) : q_lim any a ≤ 1000 := by
  cases a with
  | none => exact Nat.le_refl _
  | some q =>
    have : q.1 ≤ 240 := h.2.2.2.2
    simp only [q_lim]
    split <;> omega
theorem c_L63 (hd : okT d) (h0 : qP d op cp ru fo fr any V0) (ho : ∀ j, j < p_N d → op j < 64) (hcp : ∀ t, t < d.1 → cp t ≤ 1000) (hr : q_ru d op cp ru) {sw : Nat → Bool} {B : Nat} (hB6 : B ≤ 100) {l : List Nat} (hl : l.length < p_N d) (hch : p_ch d l ≤ B) {bb : Nat} (hbb : bb < 64) (hbt : ∀ t, t < d.1 → bb.testBit t = q_bt d op cf sw l t) {fl : Int32 → Int32 → Int32 → xV → Option xV} {nx : Nat → Option (Nat × List Nat) → Option (Nat × List Nat)}
    (hfl : ∀ t a, t < d.1 → q_ft d op cp ru cf sw any B a l t = true → ∀ V1, qB d op cp ru V0 V1 (t :: l) → qR d any V1 a → ∃ V2, fl (nI (l.length + 1)) (nI (B - p_ch d (t :: l))) (nI (p_mo d (t :: l))) V1 = some V2 ∧ qB d op cp ru V0 V2 (t :: l) ∧ qR d any V2 (nx t a)) :
    ∀ (m s n : Nat) (V : xV) (a : Option (Nat × List Nat)), m + s = d.1 → m < n → qB d op cp ru V0 V l → qR d any V a → ∃ V', f_X2_fill_L63 (f_X2_place fl) (nI l.length) (nI (B - p_ch d l)) (nI (p_mo d l)) (nI bb) n (fun _ V => some V) (nI s) V = some V' ∧ qB d op cp ru V0 V' l ∧ qR d any V' ((List.range' s m).foldl (fun a t => if q_ft d op cp ru cf sw any B a l t then nx t a else a) a) := by
  have hN := p_N8 hd
  have hT := hd.1
  have hmo := p_mo_le hd l (by omega)
  have skip : ∀ a, ¬ p_mo d l < q_lim any a → ∀ t, q_ft d op cp ru cf sw any B a l t = false := by
    intro a h t
    have : decide (p_mo d l < q_lim any a) = false := decide_eq_false h
    simp [q_ft, this]
  intro m
  induction m with
  | zero =>
    intro s n V a hm hn hB hR
    obtain ⟨n, rfl⟩ : ∃ q, n = q + 1 := ⟨n - 1, by omega⟩
    obtain rfl : s = d.1 := by omega
    have hP := h0.fr hB.1
    rw [f_X2_fill_L63, hP.1, if_pos (by rw [i_le]; exact Int.le_refl _)]
    exact ⟨V, rfl, hB, hR⟩
  | succ m ih =>
    intro s n V a hm hn hB hR
    obtain ⟨n, rfl⟩ : ∃ q, n = q + 1 := ⟨n - 1, by omega⟩
    have hP := h0.fr hB.1
    have hlim := hR.lim
    rw [f_X2_fill_L63, hP.1, if_neg (by rw [i_le, i_n (by omega), i_n (by omega)]; omega), hR.1]
    by_cases c1 : p_mo d l < q_lim any a
    · rw [if_neg (by rw [i_le, i_n (by omega), i_n (by omega)]; omega), b_bit _ hbb s (by omega), List.range'_succ, List.foldl_cons, nI_1]
      cases hb : bb.testBit s with
      | false =>
        have hf : q_ft d op cp ru cf sw any B a l s = false := by
          rw [hbt s (by omega)] at hb
          simp [q_ft, hb]
        rw [if_neg (by decide), hf]
        exact ih (s + 1) n V a (by omega) (by omega) hB hR
      | true =>
        rw [if_pos (by decide)]
        obtain ⟨V1, e1, hB1, hR1⟩ := c_place hd h0 ho hcp hr (cf := cf) (sw := sw) hB6 hB hl (show s < d.1 by omega) hR hch c1 hmo hlim (by rw [← hbt s (by omega)]; exact hb) (a' := nx s a) (fl := fl) (fun hf => hfl s a (by omega) hf)
        rw [e1, x_b1_some]
        exact ih (s + 1) n V1 _ (by omega) (by omega) hB1 hR1
    · rw [if_pos (by rw [i_le, i_n (by omega), i_n (by omega)]; omega)]
      refine ⟨V, rfl, hB, ?_⟩
      rw [foldl_noop]
      · exact hR
      · intro t _
        rw [skip a c1 t]
        rfl
set_option maxHeartbeats 1000000 in
theorem c_fill (hd : okT d) (h0 : qP d op cp ru fo fr any V0) (ho : ∀ j, j < p_N d → op j < 64) (hcp : ∀ t, t < d.1 → cp t ≤ 1000) (hr : q_ru d op cp ru) (hfo : q_fo d cf fo) {B : Nat} (hB6 : B ≤ 100) : ∀ (k : Nat) (l : List Nat), l.length + k = p_N d → ∀ K, k < K → ∀ (V : xV) (a : Option (Nat × List Nat)), qB d op cp ru V0 V l → qR d any V a → p_ch d l ≤ B → (k = 0 → p_mo d l < q_lim any a) → ∃ V', f_fill K (nI l.length) (nI (B - p_ch d l)) (nI (p_mo d l)) V = some V' ∧ qB d op cp ru V0 V' l ∧ qR d any V' (gd d.1 (q_ft d op cp ru cf (fun j => fr && decide (op j = op (j - 1))) any B) (q_up d any B) k l a) := by
  have hN := p_N8 hd
  have hT := hd.1
  have hC1 := hd.2.2.2.1
  have hC2 := hd.2.2.2.2.1
  intro k
  induction k with
  | zero =>
    intro l hl K hK V a hB hR hch hk
    obtain ⟨K, rfl⟩ : ∃ q, K = q + 1 := ⟨K - 1, by omega⟩
    have hP := h0.fr hB.1
    obtain ⟨h1, h2, h3, h4, h5, h6, h7, h8⟩ := hP
    have hmo := p_mo_le hd l (by omega)
    have hlN : l.length = p_N d := by omega
    have hup : gd d.1 (q_ft d op cp ru cf (fun j => fr && decide (op j = op (j - 1))) any B) (q_up d any B) 0 l a = some (p_mo d l, l) := by
      rw [gd, q_up, if_pos ⟨hch, hk rfl⟩]
    rw [hup, f_fill, f_X2_fill, h3, hlN, if_pos rfl]
    have ht : f_X2_take (nI (p_mo d l)) V = some (x_up (x_up (x_up (x_cpV V 82 83 (p_N d)) 76 14 1) 76 15 (nI (p_mo d l))) 76 16 (nI (q_lim any (some (p_mo d l, l))))) := by
      unfold f_X2_take
      rw [h3, i_c (by omega), if_pos ⟨by rw [i_lt, i_n (by omega), i_0]; omega, hN⟩]
      cases any with
      | false => rw [if_pos (h4.mpr rfl)]; rfl
      | true => rw [if_neg (fun q => absurd (h4.mp q) (by decide))]; rfl
    rw [ht, x_b1_some]
    refine ⟨x_up (x_up (x_up (x_cpV V 82 83 (p_N d)) 76 14 1) 76 15 (nI (p_mo d l))) 76 16 (nI (q_lim any (some (p_mo d l, l)))), ?_, ?_, ?_⟩
    · unfold f_X2_fill_J13
      rw [if_neg (by rw [i_lt, i_n (by omega), i_0]; omega), if_neg]
      rw [up_k (by decide), up_k (by decide), up_k (by decide), cp_ne (by decide), h3, i_lt]
      exact Int.lt_irrefl _
    · obtain ⟨b1, b2, b3, b4, b5⟩ := hB
      refine ⟨⟨fun q q1 q2 q3 q4 q5 => by rw [up_a q1, up_a q1, up_a q1, cp_ne q4]; exact b1.1 q q1 q2 q3 q4 q5, fun j j1 j2 j3 => by rw [up_k j3, up_k j2, up_k j1, cp_ne (by decide)]; exact b1.2 j j1 j2 j3⟩, fun i hi => by rw [up_a (by decide), up_a (by decide), up_a (by decide), cp_ne (by decide)]; exact b2 i hi, fun t ht => by rw [up_a (by decide), up_a (by decide), up_a (by decide), cp_ne (by decide)]; exact b3 t ht, b4.cg _ (fun i hi => by rw [up_a (by decide), up_a (by decide), up_a (by decide), cp_ne (by decide)]), b5⟩
    · refine ⟨up_eq, ?_, ?_, fun j hj => ?_, hmo⟩
      · rw [up_k (by decide), up_k (by decide), up_eq]
      · rw [up_k (by decide), up_eq]
      · rw [up_a (by decide), up_a (by decide), up_a (by decide), cp_y hj]
        exact hB.2.1 j (by omega)
  | succ k ih =>
    intro l hl K hK V a hB hR hch hk
    obtain ⟨K, rfl⟩ : ∃ q, K = q + 1 := ⟨K - 1, by omega⟩
    have hP := h0.fr hB.1
    obtain ⟨h1, h2, h3, h4, h5, h6, h7, h8⟩ := id hP
    have hlN : l.length < p_N d := by omega
    have hfl : ∀ t a, t < d.1 → q_ft d op cp ru cf (fun j => fr && decide (op j = op (j - 1))) any B a l t = true → ∀ V1, qB d op cp ru V0 V1 (t :: l) → qR d any V1 a → ∃ V2, f_fill K (nI (l.length + 1)) (nI (B - p_ch d (t :: l))) (nI (p_mo d (t :: l))) V1 = some V2 ∧ qB d op cp ru V0 V2 (t :: l) ∧ qR d any V2 (gd d.1 (q_ft d op cp ru cf (fun j => fr && decide (op j = op (j - 1))) any B) (q_up d any B) k (t :: l) a) := by
      intro t a ht hf V1 hB1 hR1
      simp only [q_ft, Bool.and_eq_true, decide_eq_true_eq] at hf
      obtain ⟨⟨⟨⟨⟨f1, -⟩, f2⟩, -⟩, f3⟩, -⟩ := hf
      have hs : p_sm d (t :: l) t = p_sm d l t + p_lt d l.length := by rw [p_sm, if_pos rfl]
      exact ih (t :: l) (by rw [List.length_cons]; omega) K (by omega) V1 a hB1 hR1 f2 (fun _ => by rw [p_mo, hs]; omega)
    have loop : ∀ bb, bb < 64 → (∀ t, t < d.1 → bb.testBit t = q_bt d op cf (fun j => fr && decide (op j = op (j - 1))) l t) → ∃ V', f_X2_fill_L63 (f_X2_place (f_fill K)) (nI l.length) (nI (B - p_ch d l)) (nI (p_mo d l)) (nI bb) 300 (fun _ V => some V) (0 : Int32) V = some V' ∧ qB d op cp ru V0 V' l ∧ qR d any V' (gd d.1 (q_ft d op cp ru cf (fun j => fr && decide (op j = op (j - 1))) any B) (q_up d any B) (k + 1) l a) := by
      intro bb hbb hbt
      obtain ⟨V', e, q1, q2⟩ := c_L63 hd h0 ho hcp hr (cf := cf) hB6 hlN hch hbb hbt (fl := f_fill K) (nx := fun t a => gd d.1 (q_ft d op cp ru cf (fun j => fr && decide (op j = op (j - 1))) any B) (q_up d any B) k (t :: l) a) hfl d.1 0 300 V a rfl (by omega) hB hR
      rw [← List.range_eq_range'] at q2
      exact ⟨V', e, q1, q2⟩
    have plain : l.length % d.2.2.1 = 0 → ∀ t, t < d.1 → (op l.length).testBit t = q_bt d op cf (fun j => fr && decide (op j = op (j - 1))) l t := by
      intro hm t _
      unfold q_bt g_sd p_sd
      rw [if_pos hm]
      simp
    rw [f_fill, f_X2_fill, h3, if_neg (by rw [i_eq, i_n (by omega), i_n (by omega)]; omega)]
    unfold f_X2_fill_J13
    rw [if_neg (by rw [i_lt, i_n (by omega), i_0]; omega), h3, if_pos (by rw [i_lt, i_n (by omega), i_n (by omega)]; omega), h2]
    by_cases hC : d.2.2.1 = 2
    · rw [if_pos (by rw [hC]; rfl), b_odd _ (by omega)]
      by_cases hm : l.length % 2 = 1
      · rw [if_pos (by rw [hm]; rfl)]
        obtain ⟨bb, g1, g2, g3⟩ := c_beside hd hP ho hfo hB hlN hC hm
        rw [g2, x_b2_some]
        exact loop bb g1 g3
      · rw [if_neg (by rw [show l.length % 2 = 0 by omega]; decide), if_pos (x_inN (by omega) (by decide)), i_c (by omega), (h6 _ hlN).1]
        exact loop _ (ho _ hlN) (plain (by rw [hC]; omega))
    · have hC : d.2.2.1 = 1 := by omega
      rw [if_neg (by rw [hC]; decide), if_pos (x_inN (by omega) (by decide)), i_c (by omega), (h6 _ hlN).1]
      exact loop _ (ho _ hlN) (plain (by rw [hC]; omega))
end CFL
