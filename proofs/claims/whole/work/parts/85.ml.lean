/-! the reference reads l -/
section ML
variable {x : List Int32} {V0 : xV}
theorem pLl_end {r : rS} {m i p : Nat} (h2 : (tk x p).1 ≠ 2) (hi : 0 < i) : pLl x r m i p = endI x r p := by
  cases m with
  | zero => rfl
  | succ m =>
    rw [pLl]
    unfold endI
    by_cases c : (tk x p).1 = 3
    · rw [if_pos ⟨c, hi⟩, if_pos c]
    · rw [if_neg (fun q => c q.1), if_neg c]
      unfold numI
      have : nrm x p 0 31 = false := by
        unfold nrm
        rw [decide_eq_false h2]
        rfl
      rw [this]
      rfl
theorem m_pLl (hl : x.length ≤ 100) (hx : ∀ c ∈ x, 0 ≤ c.toInt ∧ c.toInt ≤ 255) : ∀ (m i n p : Nat) (V : xV) (r : rS), m + 1 + i = 4 → m + 1 < n → p ≤ x.length → mTx V x → V 96 7 = -1 → mLk x V p → mRs1 i V r → (0 < i → (tk x p).1 = 2) → rFr V0 V → ∃ V2, f_X7_readsLights_L10 n (fun V11 => some V11) V = some V2 ∧ mMid x V0 V2 (pLl x r (m + 1) i p) := by
  intro m
  induction m with
  | zero =>
    intro i n p V r hm hn hp ht h7 hk hr h2 f0
    obtain ⟨n, rfl⟩ : ∃ q, n = q + 1 := ⟨n - 1, by omega⟩
    obtain rfl : i = 3 := by omega
    rw [f_X7_readsLights_L10, pLl, if_neg (fun q => by have := h2 (by decide); omega), hr.2.1]
    refine m_numI (lo := 0) (hi := 31) hl hx hp ht h7 hk (by decide) (by decide) (hI := 30) (by decide) f0 (fun h1 h2 h3 V1 k1 w7 _ f1 f2 => ?_) (fun s V1 hs w7 g f1 f2 => ?_)
    · obtain ⟨r1, r2, r3, r4, r5, r6, r7, r8, r9, r10⟩ := mRs1.nb hr f1 f2
      rw [if_pos (x_inN (by decide) (by decide)), i_c (by decide), r2, nI_1]
      have e7 : (x_up (x_up V1 100 3 (nI (tk x p).2.2.2)) 96 14 (nI (3 + 1))) 96 7 = -1 := by rw [up_k (by decide), up_a (by decide)]; exact w7
      have e14 : (x_up (x_up V1 100 3 (nI (tk x p).2.2.2)) 96 14 (nI (3 + 1))) 96 14 = nI (3 + 1) := up_eq
      have fin : mMid x V0 (x_up (x_up V1 100 3 (nI (tk x p).2.2.2)) 96 14 (nI (3 + 1))) (pLl x ((r.1.1, 3 + 1, r.1.2.2.1, r.1.2.2.2.1, updN r.1.2.2.2.2 3 (tk x p).2.2.2), r.2) 0 (3 + 1) (tk x p).2.2.1) := by
        refine ⟨((f0.nb f1 f2).up (by decide)).u6 (by decide), Or.inr ⟨_, _, h3, rfl, e7, ?_, ?_⟩⟩
        · refine ⟨by rw [up_k (by decide), up_a (by decide)]; exact r1, e14, by rw [up_k (by decide), up_a (by decide)]; exact r3, by rw [up_k (by decide), up_a (by decide)]; exact r4, by rw [up_k (by decide), up_a (by decide)]; exact r5, fun t ht => by rw [up_a (by decide), up_a (by decide)]; exact r6 t ht, fun q hq => ?_, fun t ht => by rw [up_a (by decide), up_a (by decide)]; exact r8 t ht, fun t ht => by rw [up_a (by decide), up_a (by decide)]; exact r9 t ht, by rw [up_a (by decide), up_a (by decide)]; exact r10⟩
          have hq : q < 3 + 1 := hq
          rw [up_a (by decide)]
          show _ = nI (if q = 3 then (tk x p).2.2.2 else r.1.2.2.2.2 q)
          by_cases c : q = 3
          · rw [if_pos c, c, up_eq]
          · rw [if_neg c, up_k c]; exact r7 q (by omega)
        · exact k1.cg (by rw [up_k (by decide), up_a (by decide)]) (by rw [up_k (by decide), up_a (by decide)]) (by rw [up_k (by decide), up_a (by decide)]) (by rw [up_k (by decide), up_a (by decide)])
      rw [m_well e7, x_b2_some, if_neg (by decide), e14, if_neg (show ¬ nI (3 + 1) < (4 : Int32) by decide)]
      split
      · exact ⟨_, rfl, fin⟩
      · exact ⟨_, rfl, fin⟩
    · rw [if_pos (x_inN (by decide) (by decide))]
      have e7 : (x_up (x_up V1 100 (nI 3).toNatClampNeg 0) 96 14 (V1 96 14 + 1)) 96 7 = nI s := by rw [up_k (by decide), up_a (by decide)]; exact w7
      rw [m_ill (by omega) e7, x_b2_some, if_pos rfl]
      exact ⟨_, rfl, (g.up (by decide)).u6 (by decide), e7⟩
  | succ m ih =>
    intro i n p V r hm hn hp ht h7 hk hr h2 f0
    obtain ⟨n, rfl⟩ : ∃ q, n = q + 1 := ⟨n - 1, by omega⟩
    rw [f_X7_readsLights_L10, pLl, if_neg (fun q => by have := h2 q.2; omega), hr.2.1]
    refine m_numI (lo := 0) (hi := 31) hl hx hp ht h7 hk (by decide) (by decide) (hI := 30) (by decide) f0 (fun h1 h2 h3 V1 k1 w7 ht1 f1 f2 => ?_) (fun s V1 hs w7 g f1 f2 => ?_)
    · obtain ⟨r1, r2, r3, r4, r5, r6, r7, r8, r9, r10⟩ := mRs1.nb hr f1 f2
      rw [if_pos (x_inN (by omega) (by decide)), i_c (by omega), r2, nI_1]
      have e7 : (x_up (x_up V1 100 i (nI (tk x p).2.2.2)) 96 14 (nI (i + 1))) 96 7 = -1 := by rw [up_k (by decide), up_a (by decide)]; exact w7
      have e14 : (x_up (x_up V1 100 i (nI (tk x p).2.2.2)) 96 14 (nI (i + 1))) 96 14 = nI (i + 1) := up_eq
      have g1 : rFr V0 (x_up (x_up V1 100 i (nI (tk x p).2.2.2)) 96 14 (nI (i + 1))) := ((f0.nb f1 f2).up (by decide)).u6 (by decide)
      have hr1 : mRs1 (i + 1) (x_up (x_up V1 100 i (nI (tk x p).2.2.2)) 96 14 (nI (i + 1))) ((r.1.1, i + 1, r.1.2.2.1, r.1.2.2.2.1, updN r.1.2.2.2.2 i (tk x p).2.2.2), r.2) := by
        refine ⟨by rw [up_k (by decide), up_a (by decide)]; exact r1, e14, by rw [up_k (by decide), up_a (by decide)]; exact r3, by rw [up_k (by decide), up_a (by decide)]; exact r4, by rw [up_k (by decide), up_a (by decide)]; exact r5, fun t ht => by rw [up_a (by decide), up_a (by decide)]; exact r6 t ht, fun q hq => ?_, fun t ht => by rw [up_a (by decide), up_a (by decide)]; exact r8 t ht, fun t ht => by rw [up_a (by decide), up_a (by decide)]; exact r9 t ht, by rw [up_a (by decide), up_a (by decide)]; exact r10⟩
        rw [up_a (by decide)]
        show _ = nI (if q = i then (tk x p).2.2.2 else r.1.2.2.2.2 q)
        by_cases c : q = i
        · rw [if_pos c, c, up_eq]
        · rw [if_neg c, up_k c]; exact r7 q (by omega)
      have hk1 : mLk x (x_up (x_up V1 100 i (nI (tk x p).2.2.2)) 96 14 (nI (i + 1))) (tk x p).2.2.1 := k1.cg (by rw [up_k (by decide), up_a (by decide)]) (by rw [up_k (by decide), up_a (by decide)]) (by rw [up_k (by decide), up_a (by decide)]) (by rw [up_k (by decide), up_a (by decide)])
      have ht2 : mTx (x_up (x_up V1 100 i (nI (tk x p).2.2.2)) 96 14 (nI (i + 1))) x := ht1.cg (by rw [up_k (by decide), up_a (by decide)]) (by rw [up_a (by decide), up_a (by decide)])
      have q6 := (tk_le x (tk x p).2.2.1 h3).2.2.2.2.2
      rw [m_well e7, x_b2_some, if_neg (by decide), e14, if_pos (show nI (i + 1) < (4 : Int32) by rw [i_lt, i_n (by omega), show (4 : Int32).toInt = 4 from rfl]; omega)]
      by_cases c2 : (tk x (tk x p).2.2.1).1 = 2
      · rw [if_pos (by rw [hk1.2.2.1, c2]; rfl)]
        exact ih (i + 1) n _ _ _ (by omega) (by omega) h3 ht2 e7 hk1 hr1 (fun _ => c2) g1
      · rw [if_neg (by rw [hk1.2.2.1]; intro e; exact c2 (i_inj (b := 2) (by omega) (by omega) e))]
        exact ⟨_, rfl, g1, Or.inr ⟨_, _, h3, pLl_end c2 (by omega), e7, hr1, hk1⟩⟩
    · rw [if_pos (x_inN (by omega) (by decide))]
      have e7 : (x_up (x_up V1 100 (nI i).toNatClampNeg 0) 96 14 (V1 96 14 + 1)) 96 7 = nI s := by rw [up_k (by decide), up_a (by decide)]; exact w7
      rw [m_ill (by omega) e7, x_b2_some, if_pos rfl]
      exact ⟨_, rfl, (g.up (by decide)).u6 (by decide), e7⟩
theorem m_pL {V : xV} (hl : x.length ≤ 100) (hx : ∀ c ∈ x, 0 ≤ c.toInt ∧ c.toInt ≤ 255) {p : Nat} (hp : p ≤ x.length) (ht : mTx V x) (h7 : V 96 7 = -1) (hk : mLk x V p) {r : rS} (hr : mRs V r) (f0 : rFr V0 V) : ∃ V2, f_X7_readsItem 108 V = some V2 ∧ mMid x V0 V2 (pLl x (r.1, r.2.1, r.2.2.1, true) 4 0 p) := by
  unfold f_X7_readsItem f_X7_readsLights
  obtain ⟨r1, r2, r3, r4, r5, r6, r7, r8, r9, r10⟩ := hr
  obtain ⟨V2, e, q⟩ := m_pLl (V0 := V0) hl hx 3 0 300 p (x_up (x_up V 96 17 (1 : Int32)) 96 14 (0 : Int32)) (r.1, r.2.1, r.2.2.1, true) rfl (by decide) hp (ht.cg (by rw [up_k (by decide), up_k (by decide)]) (by rw [up_a (by decide), up_a (by decide)])) (by rw [up_k (by decide), up_k (by decide)]; exact h7) (hk.cg (by rw [up_k (by decide), up_k (by decide)]) (by rw [up_k (by decide), up_k (by decide)]) (by rw [up_k (by decide), up_k (by decide)]) (by rw [up_k (by decide), up_k (by decide)])) ⟨by rw [up_k (by decide), up_k (by decide)]; exact r1, up_eq, by rw [up_k (by decide), up_k (by decide)]; exact r3, by rw [up_k (by decide), up_k (by decide)]; exact r4, by rw [up_k (by decide), up_eq]; rfl, fun t ht => by rw [up_a (by decide), up_a (by decide)]; exact r6 t ht, fun s hs => absurd hs (Nat.not_lt_zero s), fun t ht => by rw [up_a (by decide), up_a (by decide)]; exact r8 t ht, fun t ht => by rw [up_a (by decide), up_a (by decide)]; exact r9 t ht, by rw [up_a (by decide), up_a (by decide)]; exact r10⟩ (fun h => absurd h (by decide)) ((f0.u6 (by decide)).u6 (by decide))
  refine ⟨V2, ?_, q⟩
  rw [if_neg (by decide), if_pos rfl, e, x_b1_some]
end ML
