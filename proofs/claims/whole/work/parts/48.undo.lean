theorem mW_bcp {d : sT} (hd : okT d) {V : xV} {a so b o : Nat} {w : sW} (h : mW d (V a) so w) : mW d (bcp V a so b o 0 27 b) o w := by
  obtain ⟨g1, g2, g3⟩ := h
  obtain ⟨-, -, d1, -, d2, -⟩ := hd
  refine ⟨fun s b hs hb => ?_, fun t ht => ⟨?_, ?_, ?_⟩, ?_⟩
  · rw [bcp_in (by omega)]; exact g1 s b hs hb
  · rw [bcp_in (by omega)]; exact (g2 t ht).1
  · rw [bcp_in (by omega)]; exact (g2 t ht).2.1
  · rw [bcp_in (by omega)]; exact (g2 t ht).2.2
  · rw [bcp_in (by omega)]; exact g3
theorem st_undo (z : sS) (hz : okS z) : stp f_X6_undo (fun _ => f_X7_undo) z := by
  obtain ⟨x, d, w, hi, im, se⟩ := z
  obtain ⟨o1, o2, o3, o4, o5, o6, o7, o8, o9⟩ := hz.split
  cases hi with
  | nil =>
    refine stp.same hz (-2) (fun V h => ?_) (fun V h => ?_)
    · obtain ⟨-, -, -, h4, -⟩ := h.split
      unfold f_X6_undo f_X0_known
      rw [x_b2_some, h4.1, if_pos (by rfl)]
    · obtain ⟨-, -, -, h4, -⟩ := h.split
      show f_X7_undo V = _
      unfold f_X7_undo
      rw [h4.1, if_pos (by rfl)]
  | cons u hs =>
    have hl : hs.length ≤ 9 := by simpa using o5
    refine ⟨nI hs.length, (x, d, u, hs, im, se), ⟨o1, o2, o3, o6 u List.mem_cons_self, by show hs.length ≤ 10; omega, fun q hq => o6 q (List.mem_cons_of_mem _ hq), o7, o8, o9⟩, fun V h => ?_, fun V h => ?_⟩
    · obtain ⟨h1, h2, h3, ⟨g1, y, hy, g2, g3⟩, h5, h6, h7⟩ := h.split
      have ey : ((nI y + 10) - 1) - ((nI y + 10) - 1) / (10 : Int32) * (10 : Int32) = nI ((y + 9) % 10) := by
        rw [show (nI y + 10) - 1 = nI (y + 9) by (rw [show (10 : Int32) = nI 10 from rfl, nI_add, show (1 : Int32) = nI 1 from rfl, pk_sub (by omega)]; rfl), show (10 : Int32) = nI 10 from rfl, pk_rem (by omega) (by decide) (by decide)]
      have hm : (y + 9) % 10 < 10 := Nat.mod_lt _ (by decide)
      have el : nI (u :: hs).length - 1 = nI hs.length := by rw [List.length_cons, nI_pred]
      have hcu := g3 0 u rfl
      rw [Nat.sub_zero] at hcu
      refine ⟨x_up (x_cW (x_up (x_up V 19 1 (nI ((y + 9) % 10))) 19 2 (nI hs.length)) 5 (21 + 5 * ((y + 9) % 10))) 73 5 (-5), ?_, ?_, fun a ha => by rw [up_a (by omega), xcW_ne (by omega), up_a (by omega), up_a (by omega)]⟩
      · unfold f_X6_undo f_X0_known f_X0_restore f_X5_growStale x_tkW
        rw [x_b2_some, g1, if_neg (by rw [i_eq, List.length_cons, i_n (by omega), i_0]; omega), if_neg (by rw [i_le, List.length_cons, i_n (by omega), i_0]; omega), g2, ey, if_pos (x_inN hm (by decide)), i_c (by omega), el, x_b1_some, x_b1_some, x_b1_some, x_b2_some, up_a (by decide), xcW_ne (by omega), up_eq]
      · refine h.wi ?_ ?_ up_eq ?_ ?_
        · refine (xcW_is o3 (by omega) (hcu.cg (V' := x_up (x_up V 19 1 (nI ((y + 9) % 10))) 19 2 (nI hs.length)) (fun b _ _ => by rw [up_a (by omega), up_a (by omega)]))).cg (fun b _ _ => up_a (by omega))
        · refine ⟨by rw [up_a (by decide), xcW_ne (by omega), up_eq], (y + 9) % 10, hm, by rw [up_a (by decide), xcW_ne (by omega), up_k (by decide), up_eq], fun i q hq => ?_⟩
          have hi9 : i < hs.length := (List.getElem?_eq_some_iff.mp hq).1
          have := g3 (i + 1) q (by simpa using hq)
          have e : ((y + 9) % 10 + 9 - i) % 10 = (y + 9 - (i + 1)) % 10 := by omega
          have hlt : (y + 9 - (i + 1)) % 10 < 10 := Nat.mod_lt _ (by decide)
          rw [e]
          exact this.cg (fun b _ _ => by rw [up_a (by omega), xcW_ne (by omega), up_a (by omega), up_a (by omega)])
        · rw [up_a (by decide), xcW_ne (by omega), up_a (by decide), up_a (by decide)]
        · intro a ha
          rw [up_a (by omega), xcW_ne (by omega), up_a (by omega), up_a (by omega)]
    · obtain ⟨h1, h2, h3, ⟨g1, g2⟩, h5, h6⟩ := h.split
      have el : nI (u :: hs).length - 1 = nI hs.length := by rw [List.length_cons, nI_pred]
      refine ⟨0, bcp (x_up (x_up V 96 0 0) 96 23 (nI hs.length)) 104 (27 * hs.length) 103 0 0 27, ?_, ?_, fun a ha => by rw [bcp_ne (by omega), up_a (by omega), up_a (by omega)]⟩
      · show f_X7_undo V = _
        unfold f_X7_undo
        rw [g1, if_neg (by rw [i_eq, List.length_cons, i_n (by omega), i_0]; omega), el, show f_X7_undo_L27 300 (fun l1_5 V6 => some ((V6 96 23), V6)) (0 : Int32) = f_X7_undo_L27 300 (fun l1_5 V6 => some ((V6 96 23), V6)) (nI 0) from rfl, f_X7_undo_L27_eq (u := hs.length) (by omega) 27 0 300 _ rfl (by decide) up_eq]
        rw [bcp_ne (by decide), up_eq]
      · refine h.wi ?_ ?_ (fun k hk h0 => by rw [bcp_ne (by decide), up_k hk, up_k h0]) (fun a ha h103 h104 => by rw [bcp_ne h103, up_a (by omega), up_a (by omega)])
        · refine mW_bcp o3 ?_
          rw [up_a (by decide), up_a (by decide)]
          have := g2 0 u rfl
          rw [List.length_cons, show hs.length + 1 - 1 - 0 = hs.length by omega] at this
          exact this
        · refine ⟨by rw [bcp_ne (by decide), up_eq], fun i q hq => ?_⟩
          have hi9 : i < hs.length := (List.getElem?_eq_some_iff.mp hq).1
          have := g2 (i + 1) q (by simpa using hq)
          rw [List.length_cons, show hs.length + 1 - 1 - (i + 1) = hs.length - 1 - i by omega] at this
          rw [bcp_ne (by decide), up_a (by decide), up_a (by decide)]
          exact this
section PartsI
variable {x : List Int32} {d : sT} {w w' : sW} {hi hi' : List sW} {im im' : Option sW × Option sW} {se : List Int32} {V V' : xV}
theorem Cls.imm (h : Cls (x, d, w, hi, im, se) V) (hx : cIm d V' im') (e1 : V' 0 1 = V 0 1) (e9 : V' 0 9 = V 0 9) (e : ∀ a, 1 ≤ a → a < 86 → V' a = V a) : Cls (x, d, w, hi, im', se) V' := by
  obtain ⟨h1, h2, h3, h4, h5, h6, h7⟩ := h.split
  exact ⟨h1.cg e1 (e 1 (by decide) (by decide)), h2.cg (fun a _ _ => e a (by omega) (by omega)), h3.cg (fun a _ _ => e a (by omega) (by omega)), h4.cg (fun a _ _ => e a (by omega) (by omega)), hx, h6.cg e9 (e 72 (by decide) (by decide)), h7.cg (fun a _ _ => e a (by omega) (by omega))⟩
theorem Mdl.imm (h : Mdl (x, d, w, hi, im, se) V) (hx : mIm d V' im') (e : ∀ k, k ≠ 0 → V' 96 k = V 96 k) (e2 : ∀ a, 97 ≤ a → a ≠ 105 → a ≠ 106 → V' a = V a) : Mdl (x, d, w, hi, im', se) V' := by
  obtain ⟨h1, h2, h3, h4, h5, h6⟩ := h.split
  exact ⟨h1.cg (e _ (by decide)) (e2 _ (by decide) (by decide) (by decide)), h2.cg (e _ (by decide)) (e _ (by decide)) (e _ (by decide)) (e2 _ (by decide) (by decide) (by decide)) (e2 _ (by decide) (by decide) (by decide)), by rw [e2 103 (by decide) (by decide) (by decide)]; exact h3, h4.cg (e _ (by decide)) (e2 _ (by decide) (by decide) (by decide)), hx, h6.cg (e _ (by decide)) (e2 _ (by decide) (by decide) (by decide))⟩
end PartsI
def ibB (p q : Bool) : Nat := (if p then 1 else 0) + (if q then 2 else 0)
def imB (m : Option sW × Option sW) : Nat := ibB m.1.isSome m.2.isSome
theorem ibB_0 : ∀ p q : Bool, nI (ibB p q) ||| ((1 : Int32) <<< (nI 0 &&& 31)) = nI (ibB true q) := by decide +kernel
theorem ibB_1 : ∀ p q : Bool, nI (ibB p q) ||| ((1 : Int32) <<< (nI 1 &&& 31)) = nI (ibB p true) := by decide +kernel
theorem ibB_2 : ∀ p q : Bool, ((nI (ibB p q) >>> (nI 0 &&& 31)) &&& 1) = bI p := by decide +kernel
theorem ibB_3 : ∀ p q : Bool, ((nI (ibB p q) >>> (nI 1 &&& 31)) &&& 1) = bI q := by decide +kernel
theorem imB_0 (m : Option sW × Option sW) (w : sW) : nI (imB m) ||| ((1 : Int32) <<< (nI 0 &&& 31)) = nI (imB (some w, m.2)) := ibB_0 _ _
theorem imB_1 (m : Option sW × Option sW) (w : sW) : nI (imB m) ||| ((1 : Int32) <<< (nI 1 &&& 31)) = nI (imB (m.1, some w)) := ibB_1 _ _
theorem imB_b0 (m : Option sW × Option sW) : ((nI (imB m) >>> (nI 0 &&& 31)) &&& 1) = bI m.1.isSome := ibB_2 _ _
theorem imB_b1 (m : Option sW × Option sW) : ((nI (imB m) >>> (nI 1 &&& 31)) &&& 1) = bI m.2.isSome := ibB_3 _ _
theorem c_keep {V : xV} {u : Nat} (hu : u < 2) : f_X6_keep (nI u) V = some ((x_cW V (86 + 5 * u) 5) 2 0, x_up (x_cW V (86 + 5 * u) 5) 0 7 ((x_cW V (86 + 5 * u) 5) 0 7 ||| ((1 : Int32) <<< (nI u &&& 31)))) := by
  unfold f_X6_keep x_tkW
  rw [if_neg (by rw [i_lt, i_n (by omega), i_0]; omega), if_pos (by rw [i_lt, i_n (by omega), show (2 : Int32).toInt = 2 from rfl]; omega), if_pos (x_inN hu (by decide)), i_c (by omega), x_b1_some]
theorem m_keep {V : xV} {u : Nat} (hu : u < 2) : f_X7_keep (nI u) V = some ((bcp (x_up V 96 0 0) 103 0 105 (27 * u) 0 27) 96 8, x_up (bcp (x_up V 96 0 0) 103 0 105 (27 * u) 0 27) 106 u 1) := by
  unfold f_X7_keep
  rw [m_inT (by rw [i_n (by omega), i_0]; omega) (by rw [i_n (by omega), show (1 : Int32).toInt = 1 from rfl]; omega), x_b2_some, if_neg (by decide), show (0 : Int32) = nI 0 from rfl, f_X7_keep_L18_eq (u := u) (by omega) 27 0 300 _ rfl (by decide), if_pos (x_inN hu (by decide)), i_c (by omega)]
theorem st_keep (z : sS) (hz : okS z) (a : Int32) : stp (f_X6_keep a) (fun _ => f_X7_keep a) z := by
  obtain ⟨x, d, w, hi, im, se⟩ := z
  obtain ⟨o1, o2, o3, o4, o5, o6, o7, o8, o9⟩ := hz.split
  rcases i_arg a (n := 2) (by decide) with ⟨u, hu, rfl⟩ | ha
  · rcases (show u = 0 ∨ u = 1 by omega) with rfl | rfl
    · refine ⟨nI d.1, (x, d, w, hi, (some w, im.2), se), ⟨o1, o2, o3, o4, o5, o6, fun q hq => by cases hq; exact o4, o8, o9⟩, fun V h => ?_, fun V h => ?_⟩
      · obtain ⟨h1, h2, h3, h4, h5, h6, h7⟩ := h.split
        refine ⟨x_up (x_cW V (86 + 5 * 0) 5) 0 7 (nI (imB (some w, im.2))), ?_, ?_, ?_⟩
        · rw [c_keep hu, xcW_ne (by omega), xcW_ne (by omega), h2.1, show V 0 7 = nI (imB im) from h5.1, imB_0 im w]
        · refine h.imm ⟨up_eq, fun q hq => ?_, fun q hq => ?_⟩ (by rw [up_k (by decide), xcW_ne (by omega)]) (by rw [up_k (by decide), xcW_ne (by omega)]) (fun b _ _ => by rw [up_a (by omega), xcW_ne (by omega)])
          · cases hq
            exact (xcW_is o3 (by omega) h3).cg (fun b _ _ => up_a (by omega))
          · exact (h5.2.2 q hq).cg (fun b _ _ => by rw [up_a (by omega), xcW_ne (by omega)])
        · intro b hb
          rw [up_a (by omega), xcW_ne (by omega)]
      · obtain ⟨h1, h2, h3, h4, h5, h6⟩ := h.split
        refine ⟨0, x_up (bcp (x_up V 96 0 0) 103 0 105 (27 * 0) 0 27) 106 0 1, ?_, ?_, ?_⟩
        · show f_X7_keep _ V = _
          rw [m_keep hu, bcp_ne (by decide), up_k (by decide), h2.1]
        · refine h.imm ⟨up_eq, by rw [up_k (by decide), bcp_ne (by decide), up_a (by decide)]; exact h5.2.1, fun q hq => ?_, fun q hq => ?_⟩ (fun k hk => by rw [up_a (by decide), bcp_ne (by decide), up_k hk]) (fun b _ h1 h2 => by rw [up_a h2, bcp_ne h1, up_a (by omega)])
          · cases hq
            rw [up_a (by decide)]
            refine mW_bcp o3 ?_
            rw [up_a (by decide)]
            exact h3
          · rw [up_a (by decide)]
            refine (h5.2.2.2 q hq).cg o3 (fun k hk => ?_)
            rw [bcp_out (by omega), up_a (by decide)]
        · intro b hb
          rw [up_a (by omega), bcp_ne (by omega), up_a (by omega)]
    · refine ⟨nI d.1, (x, d, w, hi, (im.1, some w), se), ⟨o1, o2, o3, o4, o5, o6, o7, fun q hq => by cases hq; exact o4, o9⟩, fun V h => ?_, fun V h => ?_⟩
      · obtain ⟨h1, h2, h3, h4, h5, h6, h7⟩ := h.split
        refine ⟨x_up (x_cW V (86 + 5 * 1) 5) 0 7 (nI (imB (im.1, some w))), ?_, ?_, ?_⟩
        · rw [c_keep hu, xcW_ne (by omega), xcW_ne (by omega), h2.1, show V 0 7 = nI (imB im) from h5.1, imB_1 im w]
        · refine h.imm ⟨up_eq, fun q hq => ?_, fun q hq => ?_⟩ (by rw [up_k (by decide), xcW_ne (by omega)]) (by rw [up_k (by decide), xcW_ne (by omega)]) (fun b _ _ => by rw [up_a (by omega), xcW_ne (by omega)])
          · exact (h5.2.1 q hq).cg (fun b _ _ => by rw [up_a (by omega), xcW_ne (by omega)])
          · cases hq
            exact (xcW_is o3 (by omega) h3).cg (fun b _ _ => up_a (by omega))
        · intro b hb
          rw [up_a (by omega), xcW_ne (by omega)]
      · obtain ⟨h1, h2, h3, h4, h5, h6⟩ := h.split
        refine ⟨0, x_up (bcp (x_up V 96 0 0) 103 0 105 (27 * 1) 0 27) 106 1 1, ?_, ?_, ?_⟩
        · show f_X7_keep _ V = _
          rw [m_keep hu, bcp_ne (by decide), up_k (by decide), h2.1]
        · refine h.imm ⟨by rw [up_k (by decide), bcp_ne (by decide), up_a (by decide)]; exact h5.1, up_eq, fun q hq => ?_, fun q hq => ?_⟩ (fun k hk => by rw [up_a (by decide), bcp_ne (by decide), up_k hk]) (fun b _ h1 h2 => by rw [up_a h2, bcp_ne h1, up_a (by omega)])
          · rw [up_a (by decide)]
            refine (h5.2.2.1 q hq).cg o3 (fun k hk => ?_)
            rw [bcp_out (by omega), up_a (by decide)]
          · cases hq
            rw [up_a (by decide)]
            refine mW_bcp o3 ?_
            rw [up_a (by decide)]
            exact h3
        · intro b hb
          rw [up_a (by omega), bcp_ne (by omega), up_a (by omega)]
  · refine stp.same hz (-1) (fun V h => ?_) (fun V h => ?_)
    · unfold f_X6_keep
      by_cases h0 : a < 0
      · rw [if_pos h0]
      · rw [if_neg h0, if_neg (by rw [i_lt, i_0] at h0; rw [i_lt, show (2 : Int32).toInt = 2 from rfl]; omega)]
    · show f_X7_keep _ V = _
      unfold f_X7_keep
      rw [m_inF (by rw [i_0, show (1 : Int32).toInt = 1 from rfl]; omega)]
      rfl
theorem back_main {x : List Int32} {d : sT} {w : sW} {hi : List sW} {im : Option sW × Option sW} {se : List Int32} (hz : okS (x, d, w, hi, im, se)) {u : Nat} (hu : u < 2) (o : Option sW) (ho : ∀ q, o = some q → okW d q) (hc : ∀ V, cIm d V im → ((V 0 7 >>> (nI u &&& 31)) &&& 1) = bI o.isSome ∧ ∀ q, o = some q → cW d V (86 + 5 * u) q) (hm : ∀ V, mIm d V im → V 106 u = bI o.isSome ∧ ∀ q, o = some q → mW d (V 105) (27 * u) q) : stp (f_X6_back (nI u)) (fun _ => f_X7_back (nI u)) (x, d, w, hi, im, se) := by
  obtain ⟨o1, o2, o3, o4, o5, o6, o7, o8, o9⟩ := hz.split
  cases o with
  | none =>
    refine stp.same hz (-2) (fun V h => ?_) (fun V h => ?_)
    · obtain ⟨h1, h2, h3, h4, h5, h6, h7⟩ := h.split
      unfold f_X6_back
      rw [if_neg (by rw [i_lt, i_n (by omega), i_0]; omega), if_pos (by rw [i_lt, i_n (by omega), show (2 : Int32).toInt = 2 from rfl]; omega), (hc V h5).1, if_pos (by rfl)]
    · obtain ⟨h1, h2, h3, h4, h5, h6⟩ := h.th.split
      show f_X7_back _ V = _
      unfold f_X7_back
      rw [m_inT (by rw [i_n (by omega), i_0]; omega) (by rw [i_n (by omega), show (1 : Int32).toInt = 1 from rfl]; omega), x_b2_some, if_neg (by decide), if_pos (x_inN hu (by decide)), i_c (by omega), (hm _ h5).1, if_pos (by rfl)]
  | some v =>
    refine ⟨nI d.1, (x, d, v, [], im, se), ⟨o1, o2, o3, ho v rfl, by simp, fun q hq => absurd hq List.not_mem_nil, o7, o8, o9⟩, fun V h => ?_, fun V h => ?_⟩
    · obtain ⟨h1, h2, h3, ⟨-, y, hy, g2, -⟩, h5, h6, h7⟩ := h.split
      refine ⟨x_up (x_up (x_cW V 5 (86 + 5 * u)) 19 2 0) 73 5 (-5), ?_, ?_, fun b hb => by rw [up_a (by omega), up_a (by omega), xcW_ne (by omega)]⟩
      · unfold f_X6_back x_tkW f_X0_loseAll f_X5_growStale
        rw [if_neg (by rw [i_lt, i_n (by omega), i_0]; omega), if_pos (by rw [i_lt, i_n (by omega), show (2 : Int32).toInt = 2 from rfl]; omega), (hc V h5).1, if_neg (show ¬ bI (some v).isSome = 0 from (show ¬ bI true = 0 by decide)), if_pos (x_inN hu (by decide)), i_c (by omega), x_b1_some, x_b1_some, x_b1_some, up_a (by decide), up_a (by decide), xcW_ne (by omega), h2.1]
      · refine h.wi ((xcW_is o3 (by omega) ((hc V h5).2 v rfl)).cg (fun b _ _ => by rw [up_a (by omega), up_a (by omega)])) ⟨by rw [up_a (by decide), up_eq]; rfl, y, hy, by rw [up_a (by decide), up_k (by decide), xcW_ne (by omega)]; exact g2, fun i q hq => by simp at hq⟩ up_eq (by rw [up_a (by decide), up_a (by decide), xcW_ne (by omega)]) (fun b hb => by rw [up_a (by omega), up_a (by omega), xcW_ne (by omega)])
    · obtain ⟨h1, h2, h3, h4, h5, h6⟩ := h.th.split
      refine ⟨0, x_up (bcp (x_up V 96 0 0) 105 (27 * u) 103 0 0 27) 96 23 0, ?_, ?_, fun b hb => by rw [up_a (by omega), bcp_ne (by omega), up_a (by omega)]⟩
      · show f_X7_back _ V = _
        unfold f_X7_back
        rw [m_inT (by rw [i_n (by omega), i_0]; omega) (by rw [i_n (by omega), show (1 : Int32).toInt = 1 from rfl]; omega), x_b2_some, if_neg (by decide), if_pos (x_inN hu (by decide)), i_c (by omega), (hm _ h5).1, if_neg (show ¬ bI (some v).isSome = 0 from (show ¬ bI true = 0 by decide)), show f_X7_back_L30 (nI u) 300 (fun l2_10 V11 => some ((V11 96 8), (x_up V11 96 23 (0 : Int32)))) (0 : Int32) = f_X7_back_L30 (nI u) 300 (fun l2_10 V11 => some ((V11 96 8), (x_up V11 96 23 (0 : Int32)))) (nI 0) from rfl, f_X7_back_L30_eq (u := u) (by omega) 27 0 300 _ rfl (by decide), bcp_ne (by decide), h2.1]
      · refine h.wi ?_ ⟨by rw [up_eq]; rfl, fun i q hq => by simp at hq⟩ (fun k hk h0 => by rw [up_k hk, bcp_ne (by decide), up_k h0]) (fun b _ k1 k2 => by rw [up_a (by omega), bcp_ne k1, up_a (by omega)])
        rw [up_a (by decide)]
        exact mW_bcp o3 ((hm _ h5).2 v rfl)
theorem st_back (z : sS) (hz : okS z) (a : Int32) : stp (f_X6_back a) (fun _ => f_X7_back a) z := by
  obtain ⟨x, d, w, hi, im, se⟩ := z
  obtain ⟨o1, o2, o3, o4, o5, o6, o7, o8, o9⟩ := hz.split
  rcases i_arg a (n := 2) (by decide) with ⟨u, hu, rfl⟩ | ha
  · rcases (show u = 0 ∨ u = 1 by omega) with rfl | rfl
    · exact back_main hz (by decide) im.1 o7 (fun V h => ⟨by rw [show V 0 7 = nI (imB im) from h.1]; exact imB_b0 im, h.2.1⟩) (fun V h => ⟨h.1, h.2.2.1⟩)
    · exact back_main hz (by decide) im.2 o8 (fun V h => ⟨by rw [show V 0 7 = nI (imB im) from h.1]; exact imB_b1 im, h.2.2⟩) (fun V h => ⟨h.2.1, h.2.2.2⟩)
  · refine stp.same hz (-1) (fun V h => ?_) (fun V h => ?_)
    · unfold f_X6_back
      by_cases h0 : a < 0
      · rw [if_pos h0]
      · rw [if_neg h0, if_neg (by rw [i_lt, i_0] at h0; rw [i_lt, show (2 : Int32).toInt = 2 from rfl]; omega)]
    · show f_X7_back _ V = _
      unfold f_X7_back
      rw [m_inF (by rw [i_0, show (1 : Int32).toInt = 1 from rfl]; omega)]
      rfl
