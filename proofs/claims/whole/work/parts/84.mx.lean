/-! the reference reads x -/
def m_xT (x18 : Int32) (V17 : xV) : Option xV := if (V17 96 4) = (2 : Int32) then (x_b2 (f_X7_in (V17 96 6) (0 : Int32) ((V17 96 13) - 1) V17) (fun x31 V30 => if x31 = 0 then (x_b2 (f_X7_takes (0 : Int32) V30) (fun x35 V34 => x_b2 (f_X7_isWell V34) (fun x38 V37 => if x38 = 0 then (some V37) else (if x_in ((20 : Int32) + x18) 27 = true then (if x_in ((20 : Int32) + x35) 27 = true then (some (x_up (x_up V37 102 (((20 : Int32) + x18).toNatClampNeg) ((V37 102 (((20 : Int32) + x18).toNatClampNeg)) ||| ((1 : Int32) <<< (x35 &&& 31)))) 102 (((20 : Int32) + x35).toNatClampNeg) (((x_up V37 102 (((20 : Int32) + x18).toNatClampNeg) ((V37 102 (((20 : Int32) + x18).toNatClampNeg)) ||| ((1 : Int32) <<< (x35 &&& 31)))) 102 (((20 : Int32) + x35).toNatClampNeg)) ||| ((1 : Int32) <<< (x18 &&& 31))))) else none) else none)))) else (if (V30 96 6) = x18 then (x_b2 (f_X7_takes (0 : Int32) V30) (fun x45 V44 => x_b2 (f_X7_isWell V44) (fun x48 V47 => if x48 = 0 then (some V47) else (if x_in ((20 : Int32) + x18) 27 = true then (if x_in ((20 : Int32) + x45) 27 = true then (some (x_up (x_up V47 102 (((20 : Int32) + x18).toNatClampNeg) ((V47 102 (((20 : Int32) + x18).toNatClampNeg)) ||| ((1 : Int32) <<< (x45 &&& 31)))) 102 (((20 : Int32) + x45).toNatClampNeg) (((x_up V47 102 (((20 : Int32) + x18).toNatClampNeg) ((V47 102 (((20 : Int32) + x18).toNatClampNeg)) ||| ((1 : Int32) <<< (x45 &&& 31)))) 102 (((20 : Int32) + x45).toNatClampNeg)) ||| ((1 : Int32) <<< (x18 &&& 31))))) else none) else none)))) else (if x_in ((20 : Int32) + x18) 27 = true then (x_b2 (f_X7_has (V30 102 (((20 : Int32) + x18).toNatClampNeg)) (V30 96 6) V30) (fun x55 V54 => if x55 = 0 then (x_b2 (f_X7_takes (1 : Int32) V54) (fun x67 V66 => x_b2 (f_X7_isWell V66) (fun x70 V69 => if x70 = 0 then (some V69) else (if x_in ((20 : Int32) + x67) 27 = true then (some (x_up (x_up V69 102 (((20 : Int32) + x18).toNatClampNeg) ((V69 102 (((20 : Int32) + x18).toNatClampNeg)) ||| ((1 : Int32) <<< (x67 &&& 31)))) 102 (((20 : Int32) + x67).toNatClampNeg) (((x_up V69 102 (((20 : Int32) + x18).toNatClampNeg) ((V69 102 (((20 : Int32) + x18).toNatClampNeg)) ||| ((1 : Int32) <<< (x67 &&& 31)))) 102 (((20 : Int32) + x67).toNatClampNeg)) ||| ((1 : Int32) <<< (x18 &&& 31))))) else none)))) else (x_b2 (f_X7_takes (0 : Int32) V54) (fun x59 V58 => x_b2 (f_X7_isWell V58) (fun x62 V61 => if x62 = 0 then (some V61) else (if x_in ((20 : Int32) + x59) 27 = true then (some (x_up (x_up V61 102 (((20 : Int32) + x18).toNatClampNeg) ((V61 102 (((20 : Int32) + x18).toNatClampNeg)) ||| ((1 : Int32) <<< (x59 &&& 31)))) 102 (((20 : Int32) + x59).toNatClampNeg) (((x_up V61 102 (((20 : Int32) + x18).toNatClampNeg) ((V61 102 (((20 : Int32) + x18).toNatClampNeg)) ||| ((1 : Int32) <<< (x59 &&& 31)))) 102 (((20 : Int32) + x59).toNatClampNeg)) ||| ((1 : Int32) <<< (x18 &&& 31))))) else none)))))) else none)))) else (x_b2 (f_X7_takes (0 : Int32) V17) (fun x22 V21 => x_b2 (f_X7_isWell V21) (fun x25 V24 => if x25 = 0 then (some V24) else (if x_in ((20 : Int32) + x18) 27 = true then (if x_in ((20 : Int32) + x22) 27 = true then (some (x_up (x_up V24 102 (((20 : Int32) + x18).toNatClampNeg) ((V24 102 (((20 : Int32) + x18).toNatClampNeg)) ||| ((1 : Int32) <<< (x22 &&& 31)))) 102 (((20 : Int32) + x22).toNatClampNeg) (((x_up V24 102 (((20 : Int32) + x18).toNatClampNeg) ((V24 102 (((20 : Int32) + x18).toNatClampNeg)) ||| ((1 : Int32) <<< (x22 &&& 31)))) 102 (((20 : Int32) + x22).toNatClampNeg)) ||| ((1 : Int32) <<< (x18 &&& 31))))) else none) else none))))
theorem b_ox : ∀ b, b < 64 → ∀ s, s < 6 → b.testBit s = false → b ||| 2 ^ s = b ^^^ 2 ^ s := by decide +kernel
section MX
variable {x : List Int32} {V0 V V' : xV}
theorem m_x120 : f_X7_readsItem 120 V = x_b2 (f_X7_number (0 : Int32) ((V 96 13) - 1) V) m_xT := by
  unfold f_X7_readsItem
  rw [if_neg (by decide), if_neg (by decide), if_neg (by decide), if_pos rfl]
  rfl
theorem m_in01 (a lo hi : Int32) : ∃ b, f_X7_in a lo hi V = some (b, V) := by
  unfold f_X7_in
  by_cases c1 : a < lo
  · exact ⟨_, if_pos c1⟩
  · rw [if_neg c1]
    by_cases c2 : hi < a
    · exact ⟨_, if_pos c2⟩
    · exact ⟨_, if_neg c2⟩
theorem m_has01 (a b : Int32) : ∃ q, f_X7_has a b V = some (q, V) := by
  unfold f_X7_has
  by_cases c1 : ((a >>> (b &&& 31)) &&& 1) = (1 : Int32)
  · exact ⟨_, if_pos c1⟩
  · exact ⟨_, if_neg c1⟩
theorem m_xI {s t : Nat} (hs : s < 2000) (h : V 96 7 = nI s) (ht : t < 6) : m_xT (nI t) V = some V := by
  unfold m_xT
  have W := m_ill hs h
  have T := fun a => m_tkI hs h a
  by_cases c : V 96 4 = 2
  · obtain ⟨b, eb⟩ := m_in01 (V := V) (V 96 6) 0 (V 96 13 - 1)
    rw [if_pos c, eb, x_b2_some]
    by_cases cb : b = 0
    · rw [if_pos cb, T, x_b2_some, W, x_b2_some, if_pos rfl]
    · rw [if_neg cb]
      by_cases c6 : V 96 6 = nI t
      · rw [if_pos c6, T, x_b2_some, W, x_b2_some, if_pos rfl]
      · obtain ⟨b2, e2⟩ := m_has01 (V := V) (V 102 (((20 : Int32) + nI t).toNatClampNeg)) (V 96 6)
        rw [if_neg c6, e2, x_b2_some, if_pos (by rw [show (20 : Int32) + nI t = nI (20 + t) from nI_add _ _]; exact x_inN (by omega) (by decide))]
        by_cases cb2 : b2 = 0
        · rw [if_pos cb2, T, x_b2_some, W, x_b2_some, if_pos rfl]
        · rw [if_neg cb2, T, x_b2_some, W, x_b2_some, if_pos rfl]
  · rw [if_neg c, T, x_b2_some, W, x_b2_some, if_pos rfl]
theorem m_xW (hl : x.length ≤ 100) (hx : ∀ c ∈ x, 0 ≤ c.toInt ∧ c.toInt ≤ 255) {p t : Nat} (hp : p ≤ x.length) (ht : mTx V x) (h7 : V 96 7 = -1) (hk : mLk x V p) {r : rS} (hr : mRs V r) (ho : okR r) (htT : t < r.1.1) (f0 : rFr V0 V) : ∃ V2, m_xT (nI t) V = some V2 ∧ mMid x V0 V2 (numI x p 0 r.1.1 (fun o e2 => if o = t ∨ (r.2.1.2.2.1 t).testBit o = true then .inl (tk x p).2.1 else endI x (r.1, w_pair r.2.1 t o, r.2.2) e2)) := by
  have hT : r.1.1 ≤ 6 := ho.1.1
  obtain ⟨k3, k5, k4, k6, k6'⟩ := id hk
  obtain ⟨q1, q2, q3, q4, q5, q6⟩ := tk_le x p hp
  obtain ⟨r1, r2, r3, r4, r5, r6, r7, r8, r9, r10⟩ := id hr
  have I : f_X7_isWell (x_up V 96 7 (V 96 5)) = some (0, x_up V 96 7 (V 96 5)) := m_ill (s := (tk x p).2.1) (by omega) (by rw [up_eq, k5])
  have T := m_tk0 h7
  have bad : ∀ q, q = Sum.inl (tk x p).2.1 → ∃ V2, some (x_up V 96 7 (V 96 5)) = some V2 ∧ mMid x V0 V2 q := fun q hq => ⟨_, rfl, f0.u6 (by decide), Or.inl ⟨(tk x p).2.1, by omega, hq, by rw [up_eq, k5]⟩⟩
  unfold m_xT
  by_cases c : (tk x p).1 = 2
  · have q4 := q4 c
    rw [if_pos (by rw [k4, c]; rfl), k6 c, r1]
    by_cases cr : (tk x p).2.2.2 < r.1.1
    · have hn : nrm x p 0 r.1.1 = true := by
        unfold nrm
        rw [decide_eq_true c, decide_eq_true (Nat.zero_le _), decide_eq_true cr]
        rfl
      have hu : numI x p 0 r.1.1 (fun o e2 => if o = t ∨ (r.2.1.2.2.1 t).testBit o = true then .inl (tk x p).2.1 else endI x (r.1, w_pair r.2.1 t o, r.2.2) e2) = if (tk x p).2.2.2 = t ∨ (r.2.1.2.2.1 t).testBit (tk x p).2.2.2 = true then .inl (tk x p).2.1 else endI x (r.1, w_pair r.2.1 t (tk x p).2.2.2, r.2.2) (tk x p).2.2.1 := by
        unfold numI
        rw [if_pos hn]
      rw [hu, m_inT (by rw [i_n (by omega), i_0]; omega) (by rw [show (1 : Int32) = nI 1 from rfl, i_s (by omega) (by decide), i_n (by omega)]; omega), x_b2_some, if_neg (by decide), k6 c]
      have k6c := k6 c
      generalize (tk x p).2.2.2 = o at *
      by_cases c1 : o = t
      · rw [if_pos (by rw [c1]), if_pos (Or.inl c1), T, x_b2_some, I, x_b2_some, if_pos rfl]
        exact bad _ rfl
      · have hbt := ho.2.1.2.2.2.2.2.1 t (by omega)
        have hbo := ho.2.1.2.2.2.2.2.1 o (by omega)
        rw [if_neg (fun q => c1 (i_inj (by omega) (by omega) q)), show (20 : Int32) + nI t = nI (20 + t) from nI_add _ _, if_pos (x_inN (by omega) (by decide)), i_c (by omega), (r9 t (by omega)).2.2, m_has hbt (by omega), x_b2_some]
        cases hb : (r.2.1.2.2.1 t).testBit o with
        | true =>
          rw [if_neg (by decide), if_pos (Or.inr rfl), T, x_b2_some, I, x_b2_some, if_pos rfl]
          exact bad _ rfl
        | false =>
          have hb2 : (r.2.1.2.2.1 o).testBit t = false := by rw [ho.2.1.2.2.1 o t (by omega) (by omega)]; exact hb
          obtain ⟨V1, e, k1, f1, f2⟩ := m_tk1 hl hx hp ht h7 hk
          obtain ⟨s1, s2, s3, s4, s5, s6, s7, s8, s9, s10⟩ := mRs1.nb hr f1 f2
          have w7 : V1 96 7 = -1 := by rw [f2 7 (by decide) (by decide) (by decide) (by decide)]; exact h7
          have c1' : t ≠ o := fun q => c1 q.symm
          rw [if_pos bI_f, if_neg (by rintro (q | q); exact c1 q; cases q), e, x_b2_some, m_well w7, x_b2_some, if_neg (by decide), k6c, show (20 : Int32) + nI o = nI (20 + o) from nI_add _ _, if_pos (x_inN (by omega) (by decide)), i_c (by omega), (s9 t (by omega)).2.2, (b_or _ hbt o (by omega)).1, b_ox _ hbt o (by omega) hb, up_k (by omega), (s9 o (by omega)).2.2, (b_or _ hbo t (by omega)).1, b_ox _ hbo t (by omega) hb2]
          refine ⟨_, rfl, ((f0.nb f1 f2).up (by decide)).up (by decide), Or.inr ⟨_, _, q3, rfl, ?_, ?_, ?_⟩⟩
          · rw [up_a (by decide), up_a (by decide)]; exact w7
          · refine ⟨by rw [up_a (by decide), up_a (by decide)]; exact s1, by rw [up_a (by decide), up_a (by decide)]; exact s2, by rw [up_a (by decide), up_a (by decide)]; exact s3, by rw [up_a (by decide), up_a (by decide)]; exact s4, by rw [up_a (by decide), up_a (by decide)]; exact s5, fun u hu => by rw [up_a (by decide), up_a (by decide)]; exact s6 u hu, fun u hu => by rw [up_a (by decide), up_a (by decide)]; exact s7 u hu, fun j hj => by rw [up_k (by omega), up_k (by omega)]; exact s8 j hj, fun u hu => ?_, by rw [up_k (by omega), up_k (by omega)]; exact s10⟩
            obtain ⟨z1, z2, z3⟩ := s9 u hu
            refine ⟨by rw [up_k (by omega), up_k (by omega)]; exact z1, by rw [up_k (by omega), up_k (by omega)]; exact z2, ?_⟩
            show _ = nI (if u = t then r.2.1.2.2.1 t ^^^ 2 ^ o else if u = o then r.2.1.2.2.1 o ^^^ 2 ^ t else r.2.1.2.2.1 u)
            by_cases q1 : u = t
            · rw [if_pos q1, q1, up_k (by omega), up_eq]
            · rw [if_neg q1]
              by_cases q2 : u = o
              · rw [if_pos q2, q2, up_eq]
              · rw [if_neg q2, up_k (by omega), up_k (by omega)]; exact z3
          · exact k1.cg (by rw [up_a (by decide), up_a (by decide)]) (by rw [up_a (by decide), up_a (by decide)]) (by rw [up_a (by decide), up_a (by decide)]) (by rw [up_a (by decide), up_a (by decide)])
    · have hn : nrm x p 0 r.1.1 = false := by
        unfold nrm
        rw [decide_eq_false cr, Bool.and_false]
      rw [m_inF (by rw [i_n (by omega), i_0, show (1 : Int32) = nI 1 from rfl, i_s (by omega) (by decide)]; omega), x_b2_some, if_pos rfl, T, x_b2_some, I, x_b2_some, if_pos rfl]
      refine bad _ ?_
      unfold numI
      rw [hn]
      rfl
  · have hn : nrm x p 0 r.1.1 = false := by
      unfold nrm
      rw [decide_eq_false c]
      rfl
    rw [if_neg (by rw [k4]; intro e; exact c (i_inj (a := (tk x p).1) (b := 2) (by omega) (by omega) e)), T, x_b2_some, I, x_b2_some, if_pos rfl]
    refine bad _ ?_
    unfold numI
    rw [hn]
    rfl
theorem m_pX (hl : x.length ≤ 100) (hx : ∀ c ∈ x, 0 ≤ c.toInt ∧ c.toInt ≤ 255) {p : Nat} (hp : p ≤ x.length) (ht : mTx V x) (h7 : V 96 7 = -1) (hk : mLk x V p) {r : rS} (hr : mRs V r) (ho : okR r) (f0 : rFr V0 V) : ∃ V2, f_X7_readsItem 120 V = some V2 ∧ mMid x V0 V2 (pX x r p) := by
  have hT : r.1.1 ≤ 6 := ho.1.1
  unfold pX
  rw [m_x120, hr.1]
  refine m_numI (lo := 0) (hi := r.1.1) hl hx hp ht h7 hk (by decide) (by omega) (hI := nI r.1.1 - 1) (by rw [show (1 : Int32) = nI 1 from rfl, i_s (by omega) (by decide)]; rfl) f0 (fun h1 h2 h3 V1 k1 w7 ht1 f1 f2 => ?_) (fun s V1 hs w7 g f1 f2 => ?_)
  · exact m_xW hl hx h3 ht1 w7 k1 (mRs1.nb hr f1 f2) ho h2 (f0.nb f1 f2)
  · exact ⟨V1, m_xI (t := 0) (by omega) w7 (by decide), g, w7⟩
end MX
