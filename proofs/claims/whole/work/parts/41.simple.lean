/-! numbers -/
theorem i_lt {a b : Int32} : a < b ↔ a.toInt < b.toInt := Int32.lt_iff_toInt_lt
theorem i_le {a b : Int32} : a ≤ b ↔ a.toInt ≤ b.toInt := Int32.le_iff_toInt_le
theorem i_eq {a b : Int32} : a = b ↔ a.toInt = b.toInt := Int32.toInt_inj.symm
theorem i_0 : (0 : Int32).toInt = 0 := rfl
theorem i_n {n : Nat} (h : n < 2000) : (nI n).toInt = (n : Int) := nI_toInt (by omega)
theorem i_c {n : Nat} (h : n < 2000) : (nI n).toNatClampNeg = n := nI_clamp (by omega)
theorem i_s {n m : Nat} (h : n < 2000) (hm : m < 2000) : (nI n - nI m).toInt = (n : Int) - m := pk_sub_toInt (by omega) (by omega)
theorem i_arg (a : Int32) {n : Nat} (hn : n < 2000) : (∃ t, t < n ∧ a = nI t) ∨ (a.toInt < 0 ∨ (n : Int) ≤ a.toInt) := by
  rcases pk_ix a (n := n) (by omega) with h | h | h
  · exact Or.inr (Or.inl (by rw [i_lt] at h; exact h))
  · exact Or.inr (Or.inr (by rw [i_le, i_n hn] at h; exact h))
  · exact Or.inl h
theorem i_inj {a b : Nat} (ha : a < 2000) (hb : b < 2000) (h : nI a = nI b) : a = b := (nI_eq (by omega) (by omega)).mp h
theorem x_inN {j n : Nat} (h : j < n) (hn : n < 2000) : x_in (nI j) n = true := x_in_nI h (by omega)
theorem up_eq {V : xV} {a k : Nat} {x : Int32} : x_up V a k x a k = x := by simp [x_up, upd]
theorem up_k {V : xV} {a k j : Nat} {x : Int32} (h : j ≠ k) : x_up V a k x a j = V a j := by simp [x_up, upd, h]
theorem up_a {V : xV} {a k : Nat} {x : Int32} {b : Nat} (h : b ≠ a) : x_up V a k x b = V b := x_up_ne h
theorem up_f {V : xV} {a k : Nat} {x : Int32} : x_up V a k x a = upd (V a) k x := x_up_eq
/-! the class's small methods -/
section SmallC
variable {V : xV} {n t : Nat} {a : Int32}
theorem c_th1 (h : V 2 0 = nI n) (ht : t < n) (hn : n < 2000) : f_X6_isThing (nI t) V = some (1, V) := by
  unfold f_X6_isThing
  rw [if_neg (by rw [i_lt, i_n (by omega), i_0]; omega), h, if_neg (by rw [i_le, i_n (by omega), i_n (by omega)]; omega)]
theorem c_th0 (h : V 2 0 = nI n) (hn : n < 2000) (ha : a.toInt < 0 ∨ (n : Int) ≤ a.toInt) : f_X6_isThing a V = some (0, V) := by
  unfold f_X6_isThing
  by_cases h0 : a < 0
  · rw [if_pos h0]
  · rw [if_neg h0, h, if_pos (by rw [i_lt, i_0] at h0; rw [i_le, i_n hn]; omega)]
theorem c_se1 (h : V 2 1 = nI n) (ht : t < n) (hn : n < 2000) : f_X6_isSeason (nI t) V = some (1, V) := by
  unfold f_X6_isSeason
  rw [if_neg (by rw [i_lt, i_n (by omega), i_0]; omega), h, if_neg (by rw [i_le, i_n (by omega), i_n (by omega)]; omega)]
theorem c_se0 (h : V 2 1 = nI n) (hn : n < 2000) (ha : a.toInt < 0 ∨ (n : Int) ≤ a.toInt) : f_X6_isSeason a V = some (0, V) := by
  unfold f_X6_isSeason
  by_cases h0 : a < 0
  · rw [if_pos h0]
  · rw [if_neg h0, h, if_pos (by rw [i_lt, i_0] at h0; rw [i_le, i_n hn]; omega)]
theorem c_ca1 (h : V 2 2 = nI n) (ht : t < n) (hn : n < 2000) : f_X6_isCase (nI t) V = some (1, V) := by
  unfold f_X6_isCase
  rw [if_neg (by rw [i_lt, i_n (by omega), i_0]; omega), h, if_neg (by rw [i_le, i_n (by omega), i_n (by omega)]; omega)]
theorem c_ca0 (h : V 2 2 = nI n) (hn : n < 2000) (ha : a.toInt < 0 ∨ (n : Int) ≤ a.toInt) : f_X6_isCase a V = some (0, V) := by
  unfold f_X6_isCase
  by_cases h0 : a < 0
  · rw [if_pos h0]
  · rw [if_neg h0, h, if_pos (by rw [i_lt, i_0] at h0; rw [i_le, i_n hn]; omega)]
/-! the reference's -/
theorem m_inT {lo hi : Int32} (h1 : lo.toInt ≤ a.toInt) (h2 : a.toInt ≤ hi.toInt) : f_X7_in a lo hi V = some (1, V) := by
  unfold f_X7_in
  rw [if_neg (by rw [i_lt]; omega), if_neg (by rw [i_lt]; omega)]
theorem m_inF {lo hi : Int32} (h : a.toInt < lo.toInt ∨ hi.toInt < a.toInt) : f_X7_in a lo hi V = some (0, V) := by
  unfold f_X7_in
  by_cases h0 : a < lo
  · rw [if_pos h0]
  · rw [if_neg h0, if_pos (by rw [i_lt] at h0 ⊢; omega)]
theorem m_th1 (h : V 96 8 = nI n) (ht : t < n) (hn : n < 2000) : f_X7_isThing (nI t) V = some (1, V) := by
  unfold f_X7_isThing
  rw [h, m_inT (by rw [i_n (by omega), i_0]; omega) (by rw [i_n (by omega), show (1 : Int32) = nI 1 from rfl, i_s hn (by omega)]; omega)]
  rfl
theorem m_th0 (h : V 96 8 = nI n) (hn : n < 2000) (ha : a.toInt < 0 ∨ (n : Int) ≤ a.toInt) : f_X7_isThing a V = some (0, V) := by
  unfold f_X7_isThing
  rw [h, m_inF (by rw [show (1 : Int32) = nI 1 from rfl, i_s hn (by omega), i_0]; omega)]
  rfl
theorem m_se1 (h : V 96 9 = nI n) (ht : t < n) (hn : n < 2000) : f_X7_isSeason (nI t) V = some (1, V) := by
  unfold f_X7_isSeason
  rw [h, m_inT (by rw [i_n (by omega), i_0]; omega) (by rw [i_n (by omega), show (1 : Int32) = nI 1 from rfl, i_s hn (by omega)]; omega)]
  rfl
theorem m_se0 (h : V 96 9 = nI n) (hn : n < 2000) (ha : a.toInt < 0 ∨ (n : Int) ≤ a.toInt) : f_X7_isSeason a V = some (0, V) := by
  unfold f_X7_isSeason
  rw [h, m_inF (by rw [show (1 : Int32) = nI 1 from rfl, i_s hn (by omega), i_0]; omega)]
  rfl
theorem m_ca1 (h : V 96 10 = nI n) (ht : t < n) (hn : n < 2000) : f_X7_isCase (nI t) V = some (1, V) := by
  unfold f_X7_isCase
  rw [h, m_inT (by rw [i_n (by omega), i_0]; omega) (by rw [i_n (by omega), show (1 : Int32) = nI 1 from rfl, i_s hn (by omega)]; omega)]
  rfl
theorem m_ca0 (h : V 96 10 = nI n) (hn : n < 2000) (ha : a.toInt < 0 ∨ (n : Int) ≤ a.toInt) : f_X7_isCase a V = some (0, V) := by
  unfold f_X7_isCase
  rw [h, m_inF (by rw [show (1 : Int32) = nI 1 from rfl, i_s hn (by omega), i_0]; omega)]
  rfl
end SmallC
theorem Mdl.th {z : sS} {V : xV} (h : Mdl z V) : Mdl z (x_up V 96 0 0) := by
  obtain ⟨h1, h2, h3, h4, h5, h6⟩ := h
  exact ⟨h1.cg (up_k (by decide)) (up_a (by decide)), h2.cg (up_k (by decide)) (up_k (by decide)) (up_k (by decide)) (up_a (by decide)) (up_a (by decide)), by rw [up_a (by decide)]; exact h3, h4.cg (up_k (by decide)) (up_a (by decide)), h5.cg (up_a (by decide)) (up_a (by decide)), h6.cg (up_k (by decide)) (up_a (by decide))⟩
theorem frM.th {V : xV} : frM V (x_up V 96 0 0) := fun a h => up_a (by omega)
theorem frC.rf {V : xV} : frC V V := fun _ _ => rfl
theorem frM.rf {V : xV} : frM V V := fun _ _ => rfl
theorem frC.tr {V V' V2 : xV} (h : frC V V') (h2 : frC V' V2) : frC V V2 := fun a ha => (h2 a ha).trans (h a ha)
theorem frM.tr {V V' V2 : xV} (h : frM V V') (h2 : frM V' V2) : frM V V2 := fun a ha => (h2 a ha).trans (h a ha)
theorem frC.up {V V' : xV} {a k : Nat} {x : Int32} (h : frC V V') (ha : a < 96) : frC V (x_up V' a k x) := fun b hb => by rw [up_a (by omega)]; exact h b hb
theorem frM.up {V V' : xV} {a k : Nat} {x : Int32} (h : frM V V') (ha : 96 ≤ a) : frM V (x_up V' a k x) := fun b hb => by rw [up_a (by omega)]; exact h b hb
/-- a call: class and reference answer alike, and both hold the new state -/
def stp (f : xV → Option (Int32 × xV)) (g : Nat → xV → Option (Int32 × xV)) (z : sS) : Prop := ∃ (r : Int32) (z' : sS), okS z' ∧ (∀ V, Cls z V → ∃ V1, f V = some (r, V1) ∧ Cls z' V1 ∧ frC V V1) ∧ ∀ V, Mdl z V → ∃ F V2, g F V = some (r, V2) ∧ Mdl z' V2 ∧ frM V V2
theorem stp.sim {f : xV → Option (Int32 × xV)} {g : Nat → xV → Option (Int32 × xV)} (h : ∀ z, okS z → stp f g z) {V : xV} (hV : Sim V) : ∃ (r : Int32) (V1 : xV) (F : Nat) (V2 : xV), f V = some (r, V1) ∧ g F V1 = some (r, V2) ∧ Sim V2 := by
  obtain ⟨z, hz, hc, hm⟩ := hV
  obtain ⟨r, z', hz', h1, h2⟩ := h z hz
  obtain ⟨V1, e1, c1, f1⟩ := h1 V hc
  obtain ⟨F, V2, e2, c2, f2⟩ := h2 V1 (hm.cg f1)
  exact ⟨r, V1, F, V2, e1, e2, z', hz', c1.cg f2, c2⟩
/-- nothing changes -/
theorem stp.same {f : xV → Option (Int32 × xV)} {g : Nat → xV → Option (Int32 × xV)} {z : sS} (hz : okS z) (r : Int32) (hf : ∀ V, Cls z V → f V = some (r, V)) (hg : ∀ V, Mdl z V → g 0 V = some (r, x_up V 96 0 0)) : stp f g z :=
  ⟨r, z, hz, fun V h => ⟨V, hf V h, h, frC.rf⟩, fun V h => ⟨0, _, hg V h, h.th, frM.th⟩⟩
section Split
variable {x : List Int32} {d : sT} {w : sW} {hi : List sW} {im : Option sW × Option sW} {se : List Int32} {V : xV}
theorem Cls.split (h : Cls (x, d, w, hi, im, se) V) : cTx V x ∧ cTo V d ∧ cW d V 5 w ∧ cHi d V hi ∧ cIm d V im ∧ cSe V se ∧ cCa V d w := h
theorem Mdl.split (h : Mdl (x, d, w, hi, im, se) V) : mTx V x ∧ mTo V d ∧ mW d (V 103) 0 w ∧ mHi d V hi ∧ mIm d V im ∧ mSe V se := h
theorem okS.split (h : okS (x, d, w, hi, im, se)) : x.length ≤ 100 ∧ (∀ c ∈ x, 0 ≤ c.toInt ∧ c.toInt ≤ 255) ∧ okT d ∧ okW d w ∧ hi.length ≤ 10 ∧ (∀ w ∈ hi, okW d w) ∧ (∀ w, im.1 = some w → okW d w) ∧ (∀ w, im.2 = some w → okW d w) ∧ se.length ≤ 4 := h
end Split
theorem st_type (z : sS) (hz : okS z) (a : Int32) : stp (f_X6_type a) (fun _ => f_X7_type a) z := by
  obtain ⟨x, d, w, hi, im, se⟩ := z
  have hx : x.length ≤ 100 := hz.1
  rcases i_arg a (n := 256) (by decide) with ⟨c, hc, rfl⟩ | ha
  · by_cases hl : x.length = 100
    · refine stp.same hz (-3) (fun V h => ?_) (fun V h => ?_)
      · unfold f_X6_type
        rw [if_neg (by rw [i_lt, i_n (by omega), i_0]; omega), if_pos (by rw [i_le, i_n (by omega), show (255 : Int32).toInt = 255 from rfl]; omega), show V 0 1 = nI x.length from h.1.1, hl, if_neg (by decide)]
      · unfold f_X7_type
        rw [m_inT (by rw [i_n (by omega), i_0]; omega) (by rw [i_n (by omega), show (255 : Int32).toInt = 255 from rfl]; omega), x_b2_some, if_neg (by decide), up_k (by decide), show V 96 2 = nI x.length from h.1.1, hl, if_pos (show nI 100 = (100 : Int32) from rfl)]
    · have e1 : nI x.length + 1 = nI (x.length + 1) := nI_1 _
      refine ⟨nI (x.length + 1), (x ++ [nI c], d, w, hi, im, se), ?_, fun V h => ?_, fun V h => ?_⟩
      · obtain ⟨-, o2, o3⟩ := hz
        refine ⟨by simp; omega, fun q hq => ?_, o3⟩
        rcases List.mem_append.mp hq with hq | hq
        · exact o2 q hq
        · rw [List.mem_singleton.mp hq, i_n (by omega)]; omega
      · obtain ⟨h1, h2, h3, h4, h5, h6, h7⟩ := Cls.split h
        refine ⟨x_up (x_up V 1 x.length (nI c)) 0 1 (nI (x.length + 1)), ?_, ?_, (frC.rf.up (by decide)).up (by decide)⟩
        · unfold f_X6_type
          rw [if_neg (by rw [i_lt, i_n (by omega), i_0]; omega), if_pos (by rw [i_le, i_n (by omega), show (255 : Int32).toInt = 255 from rfl]; omega), h1.1, if_pos (by rw [i_lt, i_n (by omega), show (100 : Int32).toInt = 100 from rfl]; omega), if_pos (x_inN (by omega) (by decide)), i_c (by omega), e1]
        · refine ⟨⟨by rw [up_eq]; simp, fun i q hq => ?_⟩, h2.cg (fun b _ _ => by rw [up_a (by omega), up_a (by omega)]), h3.cg (fun b _ _ => by rw [up_a (by omega), up_a (by omega)]), h4.cg (fun b _ _ => by rw [up_a (by omega), up_a (by omega)]), h5.cg (by rw [up_k (by decide), up_a (by decide)]) (fun b _ _ => by rw [up_a (by omega), up_a (by omega)]), h6.cg (by rw [up_k (by decide), up_a (by decide)]) (by rw [up_a (by decide), up_a (by decide)]), h7.cg (fun b _ _ => by rw [up_a (by omega), up_a (by omega)])⟩
          rw [up_a (by decide)]
          by_cases hi : i = x.length
          · subst hi
            rw [up_eq]
            simpa using hq
          · rw [up_k hi]
            have hlt : i < x.length := by
              have := (List.getElem?_eq_some_iff.mp hq).1
              simp at this
              omega
            rw [List.getElem?_append_left hlt] at hq
            exact h1.2 i q hq
      · obtain ⟨h1, h2, h3, h4, h5, h6⟩ := Mdl.split h.th
        refine ⟨0, x_up (x_up (x_up V 96 0 0) 97 x.length (nI c)) 96 2 (nI (x.length + 1)), ?_, ?_, (frM.th.up (by decide)).up (by decide)⟩
        · show f_X7_type (nI c) V = _
          unfold f_X7_type
          rw [m_inT (by rw [i_n (by omega), i_0]; omega) (by rw [i_n (by omega), show (255 : Int32).toInt = 255 from rfl]; omega), x_b2_some, if_neg (by decide), h1.1, if_neg (by rw [i_eq, i_n (by omega), show (100 : Int32).toInt = 100 from rfl]; omega), if_pos (x_inN (by omega) (by decide)), i_c (by omega), e1]
        · refine ⟨⟨by rw [up_eq]; simp, fun i q hq => ?_⟩, h2.cg (by rw [up_k (by decide), up_a (by decide)]) (by rw [up_k (by decide), up_a (by decide)]) (by rw [up_k (by decide), up_a (by decide)]) (by rw [up_a (by decide), up_a (by decide)]) (by rw [up_a (by decide), up_a (by decide)]), by rw [up_a (by decide), up_a (by decide)]; exact h3, h4.cg (by rw [up_k (by decide), up_a (by decide)]) (by rw [up_a (by decide), up_a (by decide)]), h5.cg (by rw [up_a (by decide), up_a (by decide)]) (by rw [up_a (by decide), up_a (by decide)]), h6.cg (by rw [up_k (by decide), up_a (by decide)]) (by rw [up_a (by decide), up_a (by decide)])⟩
          rw [up_a (by decide)]
          by_cases hi : i = x.length
          · subst hi
            rw [up_eq]
            simpa using hq
          · rw [up_k hi]
            have hlt : i < x.length := by
              have := (List.getElem?_eq_some_iff.mp hq).1
              simp at this
              omega
            rw [List.getElem?_append_left hlt] at hq
            exact h1.2 i q hq
  · refine stp.same hz (-1) (fun V h => ?_) (fun V h => ?_)
    · unfold f_X6_type
      by_cases h0 : a < 0
      · rw [if_pos h0]
      · rw [if_neg h0, if_neg (by rw [i_lt, i_0] at h0; rw [i_le, show (255 : Int32).toInt = 255 from rfl]; omega)]
    · unfold f_X7_type
      rw [m_inF (by rw [i_0, show (255 : Int32).toInt = 255 from rfl]; omega)]
      rfl
