/-! the reference reads all items -/
def mOut (x : List Int32) (V0 V : xV) (q : Sum Nat (rS × Nat)) : Prop := rFr V0 V ∧ match q with
  | .inl s => s ≤ x.length ∧ V 96 7 = nI s
  | .inr o => V 96 7 = -1 ∧ mRs V o.1 ∧ mLk x V o.2
def mayB (r : rS) (c : Int32) : Bool := if c = 99 then !(r.2.2.1 || decide (0 < r.1.1)) else if c = 108 then !(r.2.2.2 || decide (0 < r.1.1)) else if c = 116 then decide (r.1.1 < 6) else true
theorem bn_t {b : Bool} (h : (!b) = false) : b = true := by
  cases b with
  | true => rfl
  | false => cases h
section MO
variable {x : List Int32} {V0 V : xV}
theorem mTx.fr (h : mTx V0 x) (f : rFr V0 V) : mTx V x := h.cg (f.2 2 (by decide)) (f.1 97 (by decide) (by decide) (by decide) (by decide))
theorem m_fin {α : Type} {K : xV → Option α} {q : Sum Nat (rS × Nat)} (hl : x.length ≤ 100) (hx : ∀ c ∈ x, 0 ≤ c.toInt ∧ c.toInt ≤ 255) (ht : mTx V0 x) (h : mMid x V0 V q) : ∃ V', (if (V 96 4) = (3 : Int32) then (x_b2 (f_X7_takes (1 : Int32) V) (fun _ V1 => K V1)) else (x_b2 (f_X7_takes (0 : Int32) V) (fun _ V1 => K V1))) = K V' ∧ mOut x V0 V' q := by
  obtain ⟨f0, h⟩ := h
  rcases h with ⟨s, hs, rfl, h7⟩ | ⟨r, p, hp, rfl, h7, hr, hk⟩
  · refine ⟨V, ?_, f0, hs, h7⟩
    rw [m_tkI (s := s) (by omega) h7, m_tkI (s := s) (by omega) h7, x_b2_some]
    split <;> rfl
  · obtain ⟨q1, q2, q3, q4, q5, q6⟩ := tk_le x p hp
    unfold endI
    by_cases c : (tk x p).1 = 3
    · rw [if_pos (by rw [hk.2.2.1, c]; rfl), if_pos c]
      obtain ⟨V1, e, k1, f1, f2⟩ := m_tk1 hl hx hp (ht.fr f0) h7 hk
      rw [e, x_b2_some]
      exact ⟨V1, rfl, f0.nb f1 f2, by rw [f2 7 (by decide) (by decide) (by decide) (by decide)]; exact h7, mRs1.nb hr f1 f2, k1⟩
    · rw [if_neg (by rw [hk.2.2.1]; intro e; exact c (i_inj (b := 3) (by omega) (by omega) e)), if_neg c, m_tk0 h7, x_b2_some]
      exact ⟨_, rfl, f0.u6 (by decide), by show (tk x p).2.1 ≤ x.length; omega, by rw [up_eq, hk.2.1]⟩
theorem m_mayB {r : rS} (hr : mRs V r) (ho : okR r) : f_X7_mayBegin V = some (bI (mayB r (V 96 6)), V) := by
  have hT : r.1.1 ≤ 6 := ho.1.1
  obtain ⟨r1, r2, r3, r4, r5, -⟩ := hr
  unfold f_X7_mayBegin mayB
  rw [r1, r4, r5]
  have z : nI r.1.1 = 0 ↔ ¬ 0 < r.1.1 := ⟨fun h => by have := i_inj (a := r.1.1) (b := 0) (by omega) (by omega) h; omega, fun h => by rw [show r.1.1 = 0 by omega]; rfl⟩
  have two : ∀ b : Bool, (if bI b = 0 then (if nI r.1.1 = 0 then (some ((1 : Int32), V)) else (some ((0 : Int32), V))) else (some ((0 : Int32), V))) = some (bI (!(b || decide (0 < r.1.1))), V) := by
    intro b
    cases b with
    | true => rw [if_neg (by decide)]; rfl
    | false =>
      rw [if_pos bI_f, Bool.false_or]
      by_cases c : 0 < r.1.1
      · rw [if_neg (fun h => z.mp h c), decide_eq_true c]; rfl
      · rw [if_pos (z.mpr c), decide_eq_false c]; rfl
  rw [two, two]
  by_cases c99 : V 96 6 = 99
  · rw [if_pos c99, if_pos c99]
  rw [if_neg c99, if_neg c99]
  by_cases c108 : V 96 6 = 108
  · rw [if_pos c108, if_pos c108]
  rw [if_neg c108, if_neg c108]
  by_cases c116 : V 96 6 = 116
  · rw [if_pos c116, if_pos c116]
    by_cases c : r.1.1 < 6
    · rw [if_neg (by rw [i_le, i_n (by omega), show (6 : Int32).toInt = 6 from rfl]; omega), decide_eq_true c]; rfl
    · rw [if_pos (by rw [i_le, i_n (by omega), show (6 : Int32).toInt = 6 from rfl]; omega), decide_eq_false c]; rfl
  · rw [if_neg c116, if_neg c116]; rfl
theorem pI_no {r : rS} {p : Nat} (h1 : (tk x p).1 = 1) (hm : mayB r (chA x (tk x p).2.1) = false) : pI x r p = .inl (tk x p).2.1 := by
  unfold mayB at hm
  unfold pI
  rw [if_pos h1]
  by_cases c99 : chA x (tk x p).2.1 = 99
  · rw [if_pos c99] at hm
    rw [if_neg (by rw [c99]; decide), if_pos c99]
    unfold pC
    rw [if_pos (bn_t hm)]
  rw [if_neg c99] at hm
  by_cases c108 : chA x (tk x p).2.1 = 108
  · rw [if_pos c108] at hm
    rw [if_neg (by rw [c108]; decide), if_neg c99, if_pos c108]
    unfold pL
    rw [if_pos (bn_t hm)]
  rw [if_neg c108] at hm
  by_cases c116 : chA x (tk x p).2.1 = 116
  · rw [if_pos c116] at hm
    rw [if_neg (by rw [c116]; decide), if_neg c99, if_neg c108, if_pos c116]
    unfold pT
    rw [if_pos (by have := of_decide_eq_false hm; omega)]
  rw [if_neg c116] at hm
  cases hm
theorem m_item (hl : x.length ≤ 100) (hx : ∀ c ∈ x, 0 ≤ c.toInt ∧ c.toInt ≤ 255) {p : Nat} (hp : p ≤ x.length) (ht : mTx V x) (h7 : V 96 7 = -1) (hk : mLk x V (tk x p).2.2.1) {r : rS} (hr : mRs V r) (ho : okR r) (f0 : rFr V0 V) (h1 : (tk x p).1 = 1) (hm : mayB r (chA x (tk x p).2.1) = true) : ∃ V2, f_X7_readsItem (chA x (tk x p).2.1) V = some V2 ∧ mMid x V0 V2 (pI x r p) := by
  have hp2 := (tk_le x p hp).2.2.1
  unfold mayB at hm
  unfold pI
  rw [if_pos h1]
  by_cases c97 : chA x (tk x p).2.1 = 97
  · rw [if_pos c97, c97]
    exact m_pA hl hx hp2 ht h7 hk hr ho f0
  rw [if_neg c97]
  by_cases c99 : chA x (tk x p).2.1 = 99
  · rw [if_pos c99] at hm
    rw [if_pos c99, c99]
    unfold pC
    rw [if_neg (by simpa using hm)]
    exact m_pC hl hx hp2 ht h7 hk hr f0
  rw [if_neg c99] at hm
  rw [if_neg c99]
  by_cases c108 : chA x (tk x p).2.1 = 108
  · rw [if_pos c108] at hm
    rw [if_pos c108, c108]
    unfold pL
    rw [if_neg (by simpa using hm)]
    exact m_pL hl hx hp2 ht h7 hk hr f0
  rw [if_neg c108] at hm
  rw [if_neg c108]
  by_cases c116 : chA x (tk x p).2.1 = 116
  · rw [if_pos c116] at hm
    have hm := of_decide_eq_true hm
    rw [if_pos c116, c116]
    unfold pT
    rw [if_neg (by omega)]
    exact m_pT hl hx hp2 ht h7 hk hr hm f0
  rw [if_neg c116]
  have c120 : chA x (tk x p).2.1 = 120 := by
    rcases kC_cases (x := x) p with ⟨-, kl, -⟩ | ⟨k1, -⟩
    · simp only [isLt, Bool.or_eq_true, decide_eq_true_eq] at kl
      rcases kl with (((h | h) | h) | h) | h
      · exact absurd h c99
      · exact absurd h c108
      · exact absurd h c116
      · exact h
      · exact absurd h c97
    · exact absurd h1 k1
  rw [c120]
  exact m_pX hl hx hp2 ht h7 hk hr ho f0
theorem m_step (hl : x.length ≤ 100) (hx : ∀ c ∈ x, 0 ≤ c.toInt ∧ c.toInt ≤ 255) {p n : Nat} {k : Int32 → xV → Option (Int32 × xV)} {l1 : Int32} (hp : p ≤ x.length) (ht : mTx V0 x) (f0 : rFr V0 V) (h7 : V 96 7 = -1) (hk : mLk x V p) {r : rS} (hr : mRs V r) (ho : okR r) (c0 : (tk x p).1 ≠ 0) : ∃ V', f_X7_house_L25 (n + 1) k l1 V = f_X7_house_L25 n k (l1 + 1) V' ∧ mOut x V0 V' (pI x r p) := by
  obtain ⟨k3, k5, k4, k6, k6'⟩ := id hk
  obtain ⟨q1, q2, q3, q4, q5, q6⟩ := tk_le x p hp
  have bad : pI x r p = .inl (tk x p).2.1 → mMid x V0 (x_up V 96 7 (V 96 5)) (pI x r p) := fun e => ⟨f0.u6 (by decide), Or.inl ⟨_, by omega, e, by rw [up_eq, k5]⟩⟩
  have I : f_X7_isWell (x_up V 96 7 (V 96 5)) = some (0, x_up V 96 7 (V 96 5)) := m_ill (s := (tk x p).2.1) (by omega) (by rw [up_eq, k5])
  rw [f_X7_house_L25, m_well h7, x_b2_some, if_neg (by decide), if_neg (by rw [k4]; intro e; exact c0 (i_inj (b := 0) (by omega) (by omega) e))]
  by_cases c1 : (tk x p).1 = 1
  · rw [if_pos (by rw [k4, c1]; rfl), m_mayB hr ho, x_b2_some, k6' c1]
    cases hm : mayB r (chA x (tk x p).2.1) with
    | false =>
      rw [if_pos bI_f, m_tk0 h7, x_b2_some, I, x_b2_some, if_pos rfl]
      exact m_fin (K := fun V => f_X7_house_L25 n k (l1 + 1) V) hl hx ht (bad (pI_no c1 hm))
    | true =>
      obtain ⟨V1, e, k1, f1, f2⟩ := m_tk1 hl hx hp (ht.fr f0) h7 hk
      have w7 : V1 96 7 = -1 := by rw [f2 7 (by decide) (by decide) (by decide) (by decide)]; exact h7
      have g1 := f0.nb f1 f2
      obtain ⟨V2, e2, md⟩ := m_item hl hx hp (ht.fr g1) w7 k1 (mRs1.nb hr f1 f2) ho g1 c1 hm
      rw [if_neg (by decide), e, x_b2_some, m_well w7, x_b2_some, if_neg (by decide), k6' c1, e2, x_b1_some]
      exact m_fin (K := fun V => f_X7_house_L25 n k (l1 + 1) V) hl hx ht md
  · rw [if_neg (by rw [k4]; intro e; exact c1 (i_inj (b := 1) (by omega) (by omega) e)), m_tk0 h7, x_b2_some, I, x_b2_some, if_pos rfl]
    exact m_fin (K := fun V => f_X7_house_L25 n k (l1 + 1) V) hl hx ht (bad (by unfold pI; rw [if_neg c1]))
def mEnd (x : List Int32) (V0 V : xV) (l : Int32) (q : Sum Nat (rS × Nat)) : Prop := rFr V0 V ∧ match q with
  | .inl s => s ≤ x.length ∧ V 96 7 = nI s
  | .inr o => l = nI o.2 ∧ V 96 7 = -1 ∧ mRs V o.1
theorem m_loop (hl : x.length ≤ 100) (hx : ∀ c ∈ x, 0 ≤ c.toInt ∧ c.toInt ≤ 255) (ht : mTx V0 x) {k : Int32 → xV → Option (Int32 × xV)} : ∀ (m p i n : Nat) (V : xV) (r : rS), x.length < p + m → m < n → p ≤ x.length → rFr V0 V → V 96 7 = -1 → mLk x V p → mRs V r → okR r → ∃ l V', f_X7_house_L25 n k (nI i) V = k l V' ∧ mEnd x V0 V' l (pAll x m r p i) := by
  intro m
  induction m with
  | zero => intro p i n V r h1 _ h2; omega
  | succ m ih =>
    intro p i n V r hm hn hp f0 h7 hk hr ho
    obtain ⟨n, rfl⟩ : ∃ q, n = q + 1 := ⟨n - 1, by omega⟩
    rw [pAll]
    by_cases c : (tk x p).1 = 0
    · rw [if_pos c, f_X7_house_L25, m_well h7, x_b2_some, if_neg (by decide), if_pos (by rw [hk.2.2.1, c]; rfl)]
      exact ⟨_, V, rfl, f0, rfl, h7, hr⟩
    · rw [if_neg c]
      obtain ⟨V1, e, g1, o⟩ := m_step (n := n) (k := k) (l1 := nI i) hl hx hp ht f0 h7 hk hr ho c
      rw [e, nI_1]
      have g := g_pI (x := x) hp ho
      cases hq : pI x r p with
      | inl s =>
        rw [hq] at o
        obtain ⟨hs, w7⟩ := o
        obtain ⟨n, rfl⟩ : ∃ q, n = q + 1 := ⟨n - 1, by omega⟩
        rw [f_X7_house_L25, m_ill (s := s) (by omega) w7, x_b2_some, if_pos rfl]
        exact ⟨_, V1, rfl, g1, hs, w7⟩
      | inr o2 =>
        rw [hq] at o g
        obtain ⟨w7, hr1, hk1⟩ := o
        obtain ⟨a1, a2, a3⟩ := g
        exact ih o2.2 (i + 1) n V1 o2.1 (by omega) (by omega) a3 g1 w7 hk1 hr1 a1
end MO
