def bkN (br : Option Nat) : Nat := br.getD 6
theorem bk_bit : ∀ k, k < 7 → (1 : Int32) <<< (nI k &&& 31) = nI (2 ^ k) ∧ 2 ^ k < 128 := by decide +kernel
theorem bk_tb {d : sT} (hd : okT d) {br : Option Nat} (hbr : ∀ x, br = some x → x < d.1) : bkN br < 7 ∧ ∀ t, t < 6 → (!(2 ^ bkN br).testBit t) = decide (br ≠ some t) := by
  have hT := hd.1
  cases br with
  | none =>
    refine ⟨by decide, fun t ht => ?_⟩
    rw [Nat.testBit_two_pow, show bkN none = 6 from rfl, decide_eq_false (show ¬ 6 = t by omega)]
    simp
  | some x =>
    have := hbr x rfl
    refine ⟨by show x < 7; omega, fun t ht => ?_⟩
    rw [Nat.testBit_two_pow, show bkN (some x) = x from rfl]
    by_cases h : x = t
    · subst h; simp
    · simp [h]
theorem p_al_at (d : sT) (w : sW) (br : Option Nat) {s b : Nat} (hb : b < d.2.2.1) (t : Nat) : p_al d w br (s * d.2.2.1 + b) t = (decide (br ≠ some t) && p_want w s b t && !p_away w s t) := by
  have e1 : (s * d.2.2.1 + b) / d.2.2.1 = s := by rw [Nat.mul_comm, Nat.mul_add_div (by omega), Nat.div_eq_of_lt hb, Nat.add_zero]
  have e2 : (s * d.2.2.1 + b) % d.2.2.1 = b := by rw [Nat.mul_comm, Nat.mul_add_mod, Nat.mod_eq_of_lt hb]
  unfold p_al
  rw [e1, e2]
  unfold p_want p_away
  congr 1
  cases p_on w 1
  · rfl
  · cases w.2.1 t <;> simp
def opS (d : sT) (al : Nat → Nat → Bool) (cp : Nat → Nat) (cf : Nat → Nat → Bool) (V : xV) (s r : Nat) : Prop := (∀ b, b < d.2.2.1 → V 78 (r * d.2.2.1 + b) = nI (d.2.2.2.2 s)) ∧ ∃ o : Nat → Nat, (∀ b, b < d.2.2.1 → V 77 (r * d.2.2.1 + b) = nI (o b) ∧ o b < 64 ∧ ∀ t, t < d.1 → (o b).testBit t = true → al (s * d.2.2.1 + b) t = true ∧ d.2.2.2.2 s ≤ cp t) ∧ (d.2.2.1 = 1 → ∀ t, t < d.1 → al (s * d.2.2.1 + 0) t = true → d.2.2.2.2 s ≤ cp t → (o 0).testBit t = true) ∧ (d.2.2.1 = 2 → ∀ a b, a < d.1 → b < d.1 → al (s * d.2.2.1 + 0) a = true → al (s * d.2.2.1 + 1) b = true → d.2.2.2.2 s ≤ cp a → d.2.2.2.2 s ≤ cp b → cf b a = false → (o 0).testBit a = true ∧ (o 1).testBit b = true)
theorem opS.cg {d : sT} {al : Nat → Nat → Bool} {cp : Nat → Nat} {cf : Nat → Nat → Bool} {V V' : xV} {s r : Nat} (h : opS d al cp cf V s r) (e : ∀ b, b < d.2.2.1 → V' 77 (r * d.2.2.1 + b) = V 77 (r * d.2.2.1 + b) ∧ V' 78 (r * d.2.2.1 + b) = V 78 (r * d.2.2.1 + b)) : opS d al cp cf V' s r := by
  obtain ⟨h1, o, h2, h3⟩ := h
  exact ⟨fun b hb => (e b hb).2.trans (h1 b hb), o, fun b hb => ⟨(e b hb).1.trans (h2 b hb).1, (h2 b hb).2⟩, h3⟩
def osK (a1 : Int32) : Int32 → xV → Option xV := fun l5_17 V18 => if (V18 2 2) = (2 : Int32) then (if x_in a1 8 = true then (if x_in (a1 + 1) 8 = true then (x_b2 (f_X2_withPartner (V18 77 (a1.toNatClampNeg)) (V18 77 ((a1 + 1).toNatClampNeg)) V18) (fun x24 V23 => x_b2 (f_X2_withPartner ((x_up V23 77 (a1.toNatClampNeg) x24) 77 ((a1 + 1).toNatClampNeg)) ((x_up V23 77 (a1.toNatClampNeg) x24) 77 (a1.toNatClampNeg)) (x_up V23 77 (a1.toNatClampNeg) x24)) (fun x27 V26 => some (x_up V26 77 ((a1 + 1).toNatClampNeg) x27)))) else none) else none) else (some V18)
section OS
variable {d : sT} {w : sW} {V : xV}
theorem slot8 (hd : okT d) {r b : Nat} (hr : r < d.2.1) (hb : b < d.2.2.1) : r * d.2.2.1 + b < 8 := by
  have hN := p_N8 hd
  unfold p_N at hN
  have : (r + 1) * d.2.2.1 ≤ d.2.1 * d.2.2.1 := Nat.mul_le_mul_right _ hr
  rw [Nat.succ_mul] at this
  omega
theorem c_o33 (hd : okT d) (hw : okW d w) (hto : cTo V d) (hc : cW d V 5 w) {s f b : Nat} (hs : s < d.2.1) (hb : b < d.2.2.1) (hf : f + b < 8) {ob : Nat} (hob : ob < 64) {l3 : Int32} {n : Nat} {k : Int32 → xV → Option xV} : ∃ q, b_set q 6 (p_want w s b) ∧ f_X2_openSeason_L33 (nI s) (nI f) l3 (nI ob) (n + 1) k (nI b) V = f_X2_openSeason_L33 (nI s) (nI f) l3 (nI ob) n k (nI (b + 1)) (x_up (x_up V 78 (f + b) (nI (d.2.2.2.2 s))) 77 (f + b) (nI (ob &&& q))) := by
  have hS := hd.2.2.1
  have hC2 := hd.2.2.2.2.1
  obtain ⟨q, hq, e⟩ := c_want (V := x_up V 78 (f + b) (nI (d.2.2.2.2 s))) hd hw (hc.cg (fun a _ _ => up_a (by omega))) hs hb
  refine ⟨q, hq, ?_⟩
  rw [f_X2_openSeason_L33, hto.2.2.1, if_neg (by rw [i_le, i_n (by omega), i_n (by omega)]; omega), if_pos (x_inN (by omega) (by decide)), nI_add, if_pos (x_inN hf (by decide)), i_c (by omega), i_c (by omega), hto.2.2.2.2 s hs]
  have e2 : f_X3_slotOf_2 (nI s) (nI b) (x_up V 78 (f + b) (nI (d.2.2.2.2 s))) = some (nI (s * d.2.2.1 + b), x_up V 78 (f + b) (nI (d.2.2.2.2 s))) := by
    unfold f_X3_slotOf_2
    rw [up_a (by decide), hto.2.2.1, pk_mul, nI_add]
  rw [e2, x_b2_some, e, x_b2_some, b_and _ hob _ hq.1, nI_1]
set_option maxHeartbeats 1000000 in
theorem c_open (hd : okT d) (hw : okW d w) (hto : cTo V d) (hc : cW d V 5 w) {cp fo : Nat → Nat} {cf : Nat → Nat → Bool} (hcp : ∀ t, t < d.1 → cp t ≤ 1000) (h79 : ∀ t, t < d.1 → V 79 t = nI (cp t)) (hfo : q_fo d cf fo) (hsy : ∀ a b, a < d.1 → b < d.1 → cf a b = cf b a) (h80 : ∀ t, t < d.1 → V 80 t = nI (fo t)) {br : Option Nat} (hbr : ∀ x, br = some x → x < d.1) {s r : Nat} (hs : s < d.2.1) (hr : r < d.2.1) : ∃ V', f_X2_openSeason (nI s) (nI (r * d.2.2.1)) (nI (2 ^ bkN br)) V = some V' ∧ (∀ a, a ≠ 77 → a ≠ 78 → V' a = V a) ∧ (∀ k, k < r * d.2.2.1 ∨ r * d.2.2.1 + d.2.2.1 ≤ k → V' 77 k = V 77 k ∧ V' 78 k = V 78 k) ∧ opS d (p_al d w br) cp cf V' s r := by
  have hT := hd.1
  have hS := hd.2.2.1
  have hC1 := hd.2.2.2.1
  have hC2 := hd.2.2.2.2.1
  have hli := hd.2.2.2.2.2.2 s hs
  obtain ⟨k1, k2⟩ := bk_tb hd hbr
  obtain ⟨b1, hb1, e1⟩ := c_bear hd hto.1 hcp h79 hli
  obtain ⟨b2, hb2, e2⟩ := c_away hd hw hc hs
  have hb12 : b1 &&& (b2 ^^^ 63) < 64 := b_an_lt hb1.1
  have hob : (b1 &&& (b2 ^^^ 63)) &&& (2 ^ bkN br ^^^ 127) < 64 := b_an_lt hb12
  have tb : ∀ t, t < d.1 → ((b1 &&& (b2 ^^^ 63)) &&& (2 ^ bkN br ^^^ 127)).testBit t = (decide (d.2.2.2.2 s ≤ cp t) && !p_away w s t && decide (br ≠ some t)) := by
    intro t ht
    rw [b_an7_tb (by omega), b_an_tb (by omega), hb1.2 t (by omega), hb2.2 t (by omega), k2 t (by omega), decide_eq_true ht, decide_eq_true (show t < 6 by omega)]
    simp
  generalize hOB : (b1 &&& (b2 ^^^ 63)) &&& (2 ^ bkN br ^^^ 127) = ob at *
  have mem : ∀ b q t, b < d.2.2.1 → b_set q 6 (p_want w s b) → t < d.1 → (ob &&& q).testBit t = (p_al d w br (s * d.2.2.1 + b) t && decide (d.2.2.2.2 s ≤ cp t)) := by
    intro b q t hb hq ht
    rw [Nat.testBit_and, tb t ht, hq.2 t (by omega), p_al_at d w br hb, decide_eq_true (show t < 6 by omega)]
    cases decide (d.2.2.2.2 s ≤ cp t) <;> cases p_away w s t <;> cases decide (br ≠ some t) <;> cases p_want w s b t <;> rfl
  have s0 := slot8 hd hr (b := 0) (by omega)
  obtain ⟨q0, hq0, eq0⟩ := c_o33 (V := V) (f := r * d.2.2.1) (b := 0) hd hw hto hc hs (by omega) (by omega) hob (l3 := nI (2 ^ bkN br)) (n := 299) (k := osK (nI (r * d.2.2.1)))
  have st : f_X2_openSeason (nI s) (nI (r * d.2.2.1)) (nI (2 ^ bkN br)) V = f_X2_openSeason_L33 (nI s) (nI (r * d.2.2.1)) (nI (2 ^ bkN br)) (nI ob) (299 + 1) (osK (nI (r * d.2.2.1))) (nI 0) V := by
    unfold f_X2_openSeason
    rw [if_pos (x_inN (by omega) (by decide)), i_c (by omega), hto.2.2.2.2 s hs, e1, x_b2_some, e2, x_b2_some, b_an _ hb1.1 _ hb2.1, b_an7 _ hb12 _ (bk_bit _ k1).2, hOB]
    rfl
  rw [st, eq0]
  simp only [Nat.add_zero, Nat.zero_add]
  by_cases hC : d.2.2.1 = 1
  · have fin : f_X2_openSeason_L33 (nI s) (nI (r * d.2.2.1)) (nI (2 ^ bkN br)) (nI ob) 299 (osK (nI (r * d.2.2.1))) (nI 1) (x_up (x_up V 78 (r * d.2.2.1) (nI (d.2.2.2.2 s))) 77 (r * d.2.2.1) (nI (ob &&& q0))) = some (x_up (x_up V 78 (r * d.2.2.1) (nI (d.2.2.2.2 s))) 77 (r * d.2.2.1) (nI (ob &&& q0))) := by
      rw [f_X2_openSeason_L33, up_a (by decide), up_a (by decide), hto.2.2.1, if_pos (by rw [hC]; decide)]
      unfold osK
      rw [up_a (by decide), up_a (by decide), hto.2.2.1, if_neg (by rw [hC]; decide)]
    rw [fin]
    refine ⟨_, rfl, fun a h1 h2 => by rw [up_a h1, up_a h2], fun k hk => ⟨by rw [up_k (by omega), up_a (by decide)], by rw [up_a (by decide), up_k (by omega)]⟩, ?_⟩
    refine ⟨fun b hb => ?_, fun _ => ob &&& q0, fun b hb => ⟨?_, b_an_lt hob, fun t ht h => ?_⟩, fun _ t ht h1 h2 => ?_, fun h => by omega⟩
    · obtain rfl : b = 0 := by omega
      rw [Nat.add_zero, up_a (by decide), up_eq]
    · obtain rfl : b = 0 := by omega
      rw [Nat.add_zero, up_eq]
    · obtain rfl : b = 0 := by omega
      rw [mem 0 q0 t (by omega) hq0 ht, Bool.and_eq_true, decide_eq_true_eq] at h
      exact h
    · rw [mem 0 q0 t (by omega) hq0 ht, h1, decide_eq_true h2]
      rfl
  · have hC : d.2.2.1 = 2 := by omega
    have s1 := slot8 hd hr (b := 1) (by omega)
    generalize hV1 : x_up (x_up V 78 (r * d.2.2.1) (nI (d.2.2.2.2 s))) 77 (r * d.2.2.1) (nI (ob &&& q0)) = V1
    have f1 : ∀ a, a ≠ 77 → a ≠ 78 → V1 a = V a := fun a h1 h2 => by rw [← hV1, up_a h1, up_a h2]
    obtain ⟨q1, hq1, eq1⟩ := c_o33 (V := V1) (f := r * d.2.2.1) (b := 1) hd hw (hto.cg (fun a _ _ => f1 a (by omega) (by omega))) (hc.cg (fun a _ _ => f1 a (by omega) (by omega))) hs (by omega) s1 hob (l3 := nI (2 ^ bkN br)) (n := 298) (k := osK (nI (r * d.2.2.1)))
    rw [eq1]
    generalize hV2 : x_up (x_up V1 78 (r * d.2.2.1 + 1) (nI (d.2.2.2.2 s))) 77 (r * d.2.2.1 + 1) (nI (ob &&& q1)) = V2
    have f2 : ∀ a, a ≠ 77 → a ≠ 78 → V2 a = V a := fun a h1 h2 => by rw [← hV2, up_a h1, up_a h2, f1 a h1 h2]
    have g0 : V2 77 (r * d.2.2.1) = nI (ob &&& q0) := by rw [← hV2, up_k (by omega), up_a (by decide), ← hV1, up_eq]
    have g1 : V2 77 (r * d.2.2.1 + 1) = nI (ob &&& q1) := by rw [← hV2, up_eq]
    obtain ⟨p0, hp0, ep0⟩ := c_par (V := V2) hd (by rw [f2 2 (by decide) (by decide)]; exact hto.1) (fun t ht => (hfo t ht).1) (fun t ht => by rw [f2 80 (by decide) (by decide)]; exact h80 t ht) (b_an_lt (b := q0) hob) (b_an_lt (b := q1) hob)
    obtain ⟨p1, hp1, ep1⟩ := c_par (V := x_up V2 77 (r * d.2.2.1) (nI p0)) hd (by rw [up_a (by decide), f2 2 (by decide) (by decide)]; exact hto.1) (fun t ht => (hfo t ht).1) (fun t ht => by rw [up_a (by decide), f2 80 (by decide) (by decide)]; exact h80 t ht) (b_an_lt (b := q1) hob) hp0.1
    refine ⟨x_up (x_up V2 77 (r * d.2.2.1) (nI p0)) 77 (r * d.2.2.1 + 1) (nI p1), ?_, fun a h1 h2 => by rw [up_a h1, up_a h1, f2 a h1 h2], fun k hk => ⟨?_, ?_⟩, ?_⟩
    · rw [f_X2_openSeason_L33, f2 2 (by decide) (by decide), hto.2.2.1, if_pos (by rw [hC]; decide)]
      unfold osK
      rw [f2 2 (by decide) (by decide), hto.2.2.1, if_pos (by rw [hC]; decide)]
      rw [nI_1, if_pos (x_inN (by omega) (by decide)), if_pos (x_inN (by omega) (by decide)), i_c (by omega), i_c (by omega), g0, g1, ep0, x_b2_some, up_eq, up_k (by omega), g1, ep1, x_b2_some]
    · rw [up_k (by omega), up_k (by omega), ← hV2, up_k (by omega), up_a (by decide), ← hV1, up_k (by omega), up_a (by decide)]
    · rw [up_a (by decide), up_a (by decide), ← hV2, up_a (by decide), up_k (by omega), ← hV1, up_a (by decide), up_k (by omega)]
    · refine ⟨fun b hb => ?_, fun b => if b = 0 then p0 else p1, fun b hb => ?_, fun h => by omega, fun _ a b ha hb h1 h2 h3 h4 h5 => ?_⟩
      · rw [up_a (by decide), up_a (by decide), ← hV2, up_a (by decide), ← hV1]
        rcases (show b = 0 ∨ b = 1 by omega) with rfl | rfl
        · rw [Nat.add_zero (r * d.2.2.1), up_k (by omega), up_a (by decide), up_eq]
        · rw [up_eq]
      · rcases (show b = 0 ∨ b = 1 by omega) with rfl | rfl
        · refine ⟨by rw [Nat.add_zero (r * d.2.2.1), up_k (by omega), up_eq]; rfl, hp0.1, fun t ht h => ?_⟩
          have h : p0.testBit t = true := h
          rw [hp0.2 t (by omega)] at h
          simp only [p_par, Bool.and_eq_true] at h
          have h := h.2.1
          rw [mem 0 q0 t (by omega) hq0 ht, Bool.and_eq_true, decide_eq_true_eq] at h
          exact h
        · refine ⟨by rw [up_eq]; rfl, hp1.1, fun t ht h => ?_⟩
          have h : p1.testBit t = true := h
          rw [hp1.2 t (by omega)] at h
          simp only [p_par, Bool.and_eq_true] at h
          have h := h.2.1
          rw [mem 1 q1 t (by omega) hq1 ht, Bool.and_eq_true, decide_eq_true_eq] at h
          exact h
      · have ma : (ob &&& q0).testBit a = true := by rw [mem 0 q0 a (by omega) hq0 ha, h1, decide_eq_true h3]; rfl
        have mb : (ob &&& q1).testBit b = true := by rw [mem 1 q1 b (by omega) hq1 hb, h2, decide_eq_true h4]; rfl
        have ca : p0.testBit a = true := by
          rw [hp0.2 a (by omega), decide_eq_true ha]
          simp only [p_par, ma, Bool.true_and, decide_eq_true_eq]
          intro hz
          have : ((ob &&& q1) &&& (fo a ^^^ 63)).testBit b = true := by rw [b_an_tb (by omega), mb, (hfo a ha).2 b hb, h5]; rfl
          rw [hz] at this
          simp at this
        have cb : p1.testBit b = true := by
          rw [hp1.2 b (by omega), decide_eq_true hb]
          simp only [p_par, mb, Bool.true_and, decide_eq_true_eq]
          intro hz
          have : (p0 &&& (fo b ^^^ 63)).testBit a = true := by rw [b_an_tb (by omega), ca, (hfo b hb).2 a ha, hsy a b ha hb, h5]; rfl
          rw [hz] at this
          simp at this
        exact ⟨ca, cb⟩
end OS
