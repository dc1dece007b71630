/-! the reference reads items -/
def mRs1 (S : Nat) (V : xV) (r : rS) : Prop := V 96 13 = nI r.1.1 ∧ V 96 14 = nI S ∧ V 96 15 = nI r.1.2.2.1 ∧ V 96 16 = bI r.2.2.1 ∧ V 96 17 = bI r.2.2.2 ∧ (∀ t, t < r.1.1 → V 101 t = nI (r.1.2.2.2.1 t)) ∧ (∀ s, s < S → V 100 s = nI (r.1.2.2.2.2 s)) ∧ (∀ j, j < 8 → V 102 j = -9) ∧ (∀ t, t < 6 → V 102 (8 + t) = lF (r.2.1.2.1 t) ∧ V 102 (14 + t) = lT (r.2.1.2.1 t) ∧ V 102 (20 + t) = nI (r.2.1.2.2.1 t)) ∧ V 102 26 = nI 15
def mRs (V : xV) (r : rS) : Prop := mRs1 r.1.2.1 V r
def rFr (V0 V : xV) : Prop := (∀ a, a ≠ 96 → a ≠ 100 → a ≠ 101 → a ≠ 102 → V a = V0 a) ∧ ∀ j, j < 3 ∨ (7 < j ∧ j < 13) ∨ 17 < j → V 96 j = V0 96 j
/-- behind an item's words, its end still to come -/
def mMid (x : List Int32) (V0 V : xV) (q : Sum Nat (rS × Nat)) : Prop := rFr V0 V ∧ ((∃ s, s ≤ x.length ∧ q = .inl s ∧ V 96 7 = nI s) ∨ ∃ r p, p ≤ x.length ∧ q = endI x r p ∧ V 96 7 = -1 ∧ mRs V r ∧ mLk x V p)
section MI
variable {x : List Int32} {V0 V V' : xV}
theorem rFr.rf : rFr V V := ⟨fun _ _ _ _ _ => rfl, fun _ _ => rfl⟩
theorem rFr.up (h : rFr V0 V) {a k : Nat} {v : Int32} (ha : a = 100 ∨ a = 101 ∨ a = 102) : rFr V0 (x_up V a k v) := ⟨fun b h1 h2 h3 h4 => by rw [up_a (by omega)]; exact h.1 b h1 h2 h3 h4, fun j hj => by rw [up_a (by omega)]; exact h.2 j hj⟩
theorem rFr.u6 (h : rFr V0 V) {k : Nat} {v : Int32} (hk : (3 ≤ k ∧ k ≤ 7) ∨ (13 ≤ k ∧ k ≤ 17)) : rFr V0 (x_up V 96 k v) := ⟨fun b h1 h2 h3 h4 => by rw [up_a h1]; exact h.1 b h1 h2 h3 h4, fun j hj => by rw [up_k (by omega)]; exact h.2 j hj⟩
theorem rFr.nb (h : rFr V0 V) (f1 : ∀ a, a ≠ 96 → V' a = V a) (f2 : ∀ j, j ≠ 3 → j ≠ 4 → j ≠ 5 → j ≠ 6 → V' 96 j = V 96 j) : rFr V0 V' := ⟨fun b h1 h2 h3 h4 => by rw [f1 b h1]; exact h.1 b h1 h2 h3 h4, fun j hj => by rw [f2 j (by omega) (by omega) (by omega) (by omega)]; exact h.2 j hj⟩
theorem mRs1.nb {S : Nat} {r : rS} (h : mRs1 S V r) (f1 : ∀ a, a ≠ 96 → V' a = V a) (f2 : ∀ j, j ≠ 3 → j ≠ 4 → j ≠ 5 → j ≠ 6 → V' 96 j = V 96 j) : mRs1 S V' r := by
  unfold mRs1
  rw [f1 100 (by decide), f1 101 (by decide), f1 102 (by decide), f2 13 (by decide) (by decide) (by decide) (by decide), f2 14 (by decide) (by decide) (by decide) (by decide), f2 15 (by decide) (by decide) (by decide) (by decide), f2 16 (by decide) (by decide) (by decide) (by decide), f2 17 (by decide) (by decide) (by decide) (by decide)]
  exact h
theorem mLk.cg {p : Nat} (h : mLk x V p) (e3 : V' 96 3 = V 96 3) (e4 : V' 96 4 = V 96 4) (e5 : V' 96 5 = V 96 5) (e6 : V' 96 6 = V 96 6) : mLk x V' p := by
  unfold mLk
  rw [e3, e4, e5, e6]
  exact h
theorem m_numI (hl : x.length ≤ 100) (hx : ∀ c ∈ x, 0 ≤ c.toInt ∧ c.toInt ≤ 255) {p : Nat} (hp : p ≤ x.length) (ht : mTx V x) (h7 : V 96 7 = -1) (hk : mLk x V p) {lo hi : Nat} (hlo : lo < 1000) (hhi : hi < 1000) {hI : Int32} (hhI : hI.toInt = (hi : Int) - 1) {K : Int32 → xV → Option xV} {k : Nat → Nat → Sum Nat (rS × Nat)} (f0 : rFr V0 V)
    (hK1 : lo ≤ (tk x p).2.2.2 → (tk x p).2.2.2 < hi → (tk x p).2.2.1 ≤ x.length → ∀ V', mLk x V' (tk x p).2.2.1 → V' 96 7 = -1 → mTx V' x → (∀ a, a ≠ 96 → V' a = V a) → (∀ j, j ≠ 3 → j ≠ 4 → j ≠ 5 → j ≠ 6 → V' 96 j = V 96 j) → ∃ V2, K (nI (tk x p).2.2.2) V' = some V2 ∧ mMid x V0 V2 (k (tk x p).2.2.2 (tk x p).2.2.1))
    (hK2 : ∀ s V', s ≤ x.length → V' 96 7 = nI s → rFr V0 V' → (∀ a, a ≠ 96 → V' a = V a) → (∀ j, j ≠ 7 → V' 96 j = V 96 j) → ∃ V2, K 0 V' = some V2 ∧ rFr V0 V2 ∧ V2 96 7 = nI s) : ∃ V2, x_b2 (f_X7_number (nI lo) hI V) K = some V2 ∧ mMid x V0 V2 (numI x p lo hi k) := by
  obtain ⟨n1, n2⟩ := m_nrm hl hx hp ht h7 hk hlo hhi hhI
  obtain ⟨q1, q2, q3, q4, -⟩ := tk_le x p hp
  unfold numI
  cases hn : nrm x p lo hi with
  | true =>
    obtain ⟨V1, e, k1, f1, f2⟩ := n1 hn
    rw [e, x_b2_some]
    simp only [if_true]
    unfold nrm at hn
    simp only [Bool.and_eq_true, decide_eq_true_eq] at hn
    exact hK1 hn.1.2 hn.2 q3 V1 k1 (by rw [f2 7 (by decide) (by decide) (by decide) (by decide)]; exact h7) (ht.cg (f2 2 (by decide) (by decide) (by decide) (by decide)) (f1 97 (by decide))) f1 f2
  | false =>
    rw [n2 hn, x_b2_some]
    simp only [Bool.false_eq_true, if_false]
    obtain ⟨V2, e, g1, g2⟩ := hK2 (tk x p).2.1 (x_up V 96 7 (nI (tk x p).2.1)) (by omega) up_eq (f0.u6 (by decide)) (fun a ha => up_a ha) (fun j hj => up_k hj)
    exact ⟨V2, e, g1, Or.inl ⟨_, by omega, rfl, g2⟩⟩
theorem m_pC (hl : x.length ≤ 100) (hx : ∀ c ∈ x, 0 ≤ c.toInt ∧ c.toInt ≤ 255) {p : Nat} (hp : p ≤ x.length) (ht : mTx V x) (h7 : V 96 7 = -1) (hk : mLk x V p) {r : rS} (hr : mRs V r) (f0 : rFr V0 V) : ∃ V2, f_X7_readsItem 99 V = some V2 ∧ mMid x V0 V2 (numI x p 1 3 (fun v e => endI x ((r.1.1, r.1.2.1, v, r.1.2.2.2.1, r.1.2.2.2.2), r.2.1, true, r.2.2.2) e)) := by
  unfold f_X7_readsItem
  rw [if_pos rfl]
  refine m_numI (lo := 1) (hi := 3) hl hx hp ht h7 hk (by decide) (by decide) (hI := 2) (by decide) f0 (fun h1 h2 h3 V1 k1 w7 _ f1 f2 => ?_) (fun s V1 hs w7 g f1 f2 => ?_)
  · obtain ⟨r1, r2, r3, r4, r5, r6, r7, r8, r9, r10⟩ := mRs1.nb hr f1 f2
    refine ⟨_, rfl, ((f0.nb f1 f2).u6 (by decide)).u6 (by decide), Or.inr ⟨_, _, h3, rfl, ?_, ?_, ?_⟩⟩
    · rw [up_k (by decide), up_k (by decide)]; exact w7
    · exact ⟨by rw [up_k (by decide), up_k (by decide)]; exact r1, by rw [up_k (by decide), up_k (by decide)]; exact r2, by rw [up_k (by decide), up_eq], up_eq, by rw [up_k (by decide), up_k (by decide)]; exact r5, fun t ht => by rw [up_a (by decide), up_a (by decide)]; exact r6 t ht, fun t ht => by rw [up_a (by decide), up_a (by decide)]; exact r7 t ht, fun t ht => by rw [up_a (by decide), up_a (by decide)]; exact r8 t ht, fun t ht => by rw [up_a (by decide), up_a (by decide)]; exact r9 t ht, by rw [up_a (by decide), up_a (by decide)]; exact r10⟩
    · exact k1.cg (by rw [up_k (by decide), up_k (by decide)]) (by rw [up_k (by decide), up_k (by decide)]) (by rw [up_k (by decide), up_k (by decide)]) (by rw [up_k (by decide), up_k (by decide)])
  · exact ⟨_, rfl, (g.u6 (by decide)).u6 (by decide), by rw [up_k (by decide), up_k (by decide)]; exact w7⟩
theorem m_pT (hl : x.length ≤ 100) (hx : ∀ c ∈ x, 0 ≤ c.toInt ∧ c.toInt ≤ 255) {p : Nat} (hp : p ≤ x.length) (ht : mTx V x) (h7 : V 96 7 = -1) (hk : mLk x V p) {r : rS} (hr : mRs V r) (hT : r.1.1 < 6) (f0 : rFr V0 V) : ∃ V2, f_X7_readsItem 116 V = some V2 ∧ mMid x V0 V2 (numI x p 0 100 (fun v e => endI x ((r.1.1 + 1, r.1.2.1, r.1.2.2.1, updN r.1.2.2.2.1 r.1.1 v, r.1.2.2.2.2), r.2) e)) := by
  unfold f_X7_readsItem
  rw [if_neg (by decide), if_neg (by decide), if_pos rfl, hr.1]
  refine m_numI (lo := 0) (hi := 100) hl hx hp ht h7 hk (by decide) (by decide) (hI := 99) (by decide) f0 (fun h1 h2 h3 V1 k1 w7 _ f1 f2 => ?_) (fun s V1 hs w7 g f1 f2 => ?_)
  · obtain ⟨r1, r2, r3, r4, r5, r6, r7, r8, r9, r10⟩ := mRs1.nb hr f1 f2
    rw [if_pos (x_inN (by omega) (by decide)), i_c (by omega), r1, nI_1]
    refine ⟨_, rfl, ((f0.nb f1 f2).up (by decide)).u6 (by decide), Or.inr ⟨_, _, h3, rfl, ?_, ?_, ?_⟩⟩
    · rw [up_k (by decide), up_a (by decide)]; exact w7
    · refine ⟨up_eq, by rw [up_k (by decide), up_a (by decide)]; exact r2, by rw [up_k (by decide), up_a (by decide)]; exact r3, by rw [up_k (by decide), up_a (by decide)]; exact r4, by rw [up_k (by decide), up_a (by decide)]; exact r5, fun t ht => ?_, fun t ht => by rw [up_a (by decide), up_a (by decide)]; exact r7 t ht, fun t ht => by rw [up_a (by decide), up_a (by decide)]; exact r8 t ht, fun t ht => by rw [up_a (by decide), up_a (by decide)]; exact r9 t ht, by rw [up_a (by decide), up_a (by decide)]; exact r10⟩
      have ht : t < r.1.1 + 1 := ht
      rw [up_a (by decide)]
      show _ = nI (if t = r.1.1 then (tk x p).2.2.2 else r.1.2.2.2.1 t)
      by_cases e : t = r.1.1
      · subst e; rw [up_eq, if_pos rfl]
      · rw [up_k e, if_neg e]; exact r6 t (by omega)
    · exact k1.cg (by rw [up_k (by decide), up_a (by decide)]) (by rw [up_k (by decide), up_a (by decide)]) (by rw [up_k (by decide), up_a (by decide)]) (by rw [up_k (by decide), up_a (by decide)])
  · rw [if_pos (x_inN (by omega) (by decide))]
    exact ⟨_, rfl, (g.up (by decide)).u6 (by decide), by rw [up_k (by decide), up_a (by decide)]; exact w7⟩
theorem m_illA {s t : Nat} (g : rFr V0 V) (ht : t < 6) (w7 : V 96 7 = nI s) (u v : Int32) : ∃ V2, (if x_in ((8 : Int32) + nI t) 27 = true then (if x_in ((14 : Int32) + nI t) 27 = true then (some (x_up (x_up V 102 (((8 : Int32) + nI t).toNatClampNeg) u) 102 (((14 : Int32) + nI t).toNatClampNeg) v)) else none) else none) = some V2 ∧ rFr V0 V2 ∧ V2 96 7 = nI s := by
  rw [show (8 : Int32) + nI t = nI (8 + t) from nI_add _ _, show (14 : Int32) + nI t = nI (14 + t) from nI_add _ _, if_pos (x_inN (by omega) (by decide)), if_pos (x_inN (by omega) (by decide))]
  exact ⟨_, rfl, (g.up (by decide)).up (by decide), by rw [up_a (by decide), up_a (by decide)]; exact w7⟩
theorem m_pA (hl : x.length ≤ 100) (hx : ∀ c ∈ x, 0 ≤ c.toInt ∧ c.toInt ≤ 255) {p : Nat} (hp : p ≤ x.length) (ht : mTx V x) (h7 : V 96 7 = -1) (hk : mLk x V p) {r : rS} (hr : mRs V r) (ho : okR r) (f0 : rFr V0 V) : ∃ V2, f_X7_readsItem 97 V = some V2 ∧ mMid x V0 V2 (pA x r p) := by
  have hT : r.1.1 ≤ 6 := ho.1.1
  have hS : r.1.2.1 ≤ 4 := ho.1.2.2.1
  unfold f_X7_readsItem pA
  rw [if_neg (by decide), if_neg (by decide), if_neg (by decide), if_neg (by decide), hr.1]
  refine m_numI (lo := 0) (hi := r.1.1) hl hx hp ht h7 hk (by decide) (by omega) (hI := nI r.1.1 - 1) (by rw [show (1 : Int32) = nI 1 from rfl, i_s (by omega) (by decide)]; rfl) f0 (fun h1 h2 h3 V1 k1 w7 ht1 f1 f2 => ?_) (fun s V1 hs w7 g f1 f2 => ?_)
  · have hr1 : mRs V1 r := mRs1.nb hr f1 f2
    have g1 := f0.nb f1 f2
    generalize (tk x p).2.2.2 = t at *
    generalize (tk x p).2.2.1 = e at *
    rw [hr1.2.1]
    refine m_numI (lo := 0) (hi := r.1.2.1) hl hx h3 ht1 w7 k1 (by decide) (by omega) (hI := nI r.1.2.1 - 1) (by rw [show (1 : Int32) = nI 1 from rfl, i_s (by omega) (by decide)]; rfl) g1 (fun h4 h5 h6 V2 k2 w72 ht2 f3 f4 => ?_) (fun s V2 hs w7 g f3 f4 => ?_)
    · have hr2 : mRs V2 r := mRs1.nb hr1 f3 f4
      have g2 := g1.nb f3 f4
      generalize (tk x e).2.2.2 = f at *
      generalize (tk x e).2.2.1 = e2 at *
      rw [hr2.2.1]
      refine m_numI (lo := f) (hi := r.1.2.1) hl hx h6 ht2 w72 k2 (by omega) (by omega) (hI := nI r.1.2.1 - 1) (by rw [show (1 : Int32) = nI 1 from rfl, i_s (by omega) (by decide)]; rfl) g2 (fun h7 h8 h9 V3 k3 w73 ht3 f5 f6 => ?_) (fun s V3 hs w7 g f5 f6 => ?_)
      · obtain ⟨r1, r2, r3, r4, r5, r6, r7, r8, r9, r10⟩ := mRs1.nb hr2 f5 f6
        have g3 := g2.nb f5 f6
        generalize (tk x e2).2.2.2 = q at *
        generalize (tk x e2).2.2.1 = e3 at *
        rw [show (8 : Int32) + nI t = nI (8 + t) from nI_add _ _, show (14 : Int32) + nI t = nI (14 + t) from nI_add _ _, if_pos (x_inN (by omega) (by decide)), if_pos (x_inN (by omega) (by decide)), i_c (by omega), i_c (by omega)]
        refine ⟨_, rfl, (g3.up (by decide)).up (by decide), Or.inr ⟨_, _, h9, rfl, ?_, ?_, ?_⟩⟩
        · rw [up_a (by decide), up_a (by decide)]; exact w73
        · refine ⟨by rw [up_a (by decide), up_a (by decide)]; exact r1, by rw [up_a (by decide), up_a (by decide)]; exact r2, by rw [up_a (by decide), up_a (by decide)]; exact r3, by rw [up_a (by decide), up_a (by decide)]; exact r4, by rw [up_a (by decide), up_a (by decide)]; exact r5, fun u hu => by rw [up_a (by decide), up_a (by decide)]; exact r6 u hu, fun u hu => by rw [up_a (by decide), up_a (by decide)]; exact r7 u hu, fun j hj => by rw [up_k (by omega), up_k (by omega)]; exact r8 j hj, fun u hu => ?_, by rw [up_k (by omega), up_k (by omega)]; exact r10⟩
          obtain ⟨s1, s2, s3⟩ := r9 u hu
          refine ⟨?_, ?_, by rw [up_k (by omega), up_k (by omega)]; exact s3⟩
          · show _ = lF (if u = t then some (f, q) else r.2.1.2.1 u)
            by_cases c : u = t
            · rw [if_pos c, c, up_k (by omega), up_eq]; rfl
            · rw [if_neg c, up_k (by omega), up_k (by omega)]; exact s1
          · show _ = lT (if u = t then some (f, q) else r.2.1.2.1 u)
            by_cases c : u = t
            · rw [if_pos c, c, up_eq]; rfl
            · rw [if_neg c, up_k (by omega), up_k (by omega)]; exact s2
        · exact k3.cg (by rw [up_a (by decide), up_a (by decide)]) (by rw [up_a (by decide), up_a (by decide)]) (by rw [up_a (by decide), up_a (by decide)]) (by rw [up_a (by decide), up_a (by decide)])
      · exact m_illA g (by omega) w7 _ _
    · rw [m_nrmI (s := s) (by omega) w7, x_b2_some]
      exact m_illA g (by omega) w7 _ _
  · rw [m_nrmI (s := s) (by omega) w7, x_b2_some, m_nrmI (s := s) (by omega) w7, x_b2_some]
    exact m_illA (t := 0) g (by omega) w7 _ _
end MI
