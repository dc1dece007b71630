/-! the class's house -/
def r0 : rS := ((0, 4, 2, fun _ => 0, fun _ => 5), s_w0, false, false)
theorem r0_ok : okR r0 := ⟨z0_ok.2.2.1, z0_ok.2.2.2.1, fun _ _ => rfl, rfl⟩
theorem fl_in {V : xV} {a n k : Nat} {v : Int32} (h : k < n) : x_flV V a n v a k = v := by simp [x_flV, h]
section CH
variable {x : List Int32} {V : xV}
theorem c_rAll (hl : x.length ≤ 100) (hx : ∀ c ∈ x, 0 ≤ c.toInt ∧ c.toInt ≤ 255) (ht : cTx V x) : ∃ b V2, f_X1_readAll (nI x.length) V = some (b, V2) ∧ cAll V V2 b (pAll x 101 r0 0 0) := by
  unfold f_X1_readAll f_X3_beAsAtFirst_11 f_X4_beAsAtFirst_14 x_filA
  rw [if_neg (by rw [i_lt, i_n (by omega), show (100 : Int32).toInt = 100 from rfl]; omega)]
  simp only [x_b1_some]
  have fr : ∀ a, a < 10 ∨ 18 < a → x_up (x_flV (x_flV (x_flV (x_flV (x_flV (x_flV (x_up (x_up (x_up (x_up (x_up (x_up (x_up V 10 3 (nI x.length)) 10 4 0) 10 8 0) 10 9 0) 11 0 0) 11 1 4) 11 2 2) 12 6 0) 13 4 5) 15 8 (-9)) 16 6 (-9)) 17 6 (-9)) 18 6 0) 14 4 15 a = V a := fun a ha => by
    rw [up_a (by omega), fl_ne (by omega), fl_ne (by omega), fl_ne (by omega), fl_ne (by omega), fl_ne (by omega), fl_ne (by omega), up_a (by omega), up_a (by omega), up_a (by omega), up_a (by omega), up_a (by omega), up_a (by omega), up_a (by omega)]
  have f10 : x_up (x_flV (x_flV (x_flV (x_flV (x_flV (x_flV (x_up (x_up (x_up (x_up (x_up (x_up (x_up V 10 3 (nI x.length)) 10 4 0) 10 8 0) 10 9 0) 11 0 0) 11 1 4) 11 2 2) 12 6 0) 13 4 5) 15 8 (-9)) 16 6 (-9)) 17 6 (-9)) 18 6 0) 14 4 15 10 = x_up (x_up (x_up (x_up V 10 3 (nI x.length)) 10 4 0) 10 8 0) 10 9 0 10 := by
    rw [up_a (by decide), fl_ne (by decide), fl_ne (by decide), fl_ne (by decide), fl_ne (by decide), fl_ne (by decide), fl_ne (by decide), up_a (by decide), up_a (by decide), up_a (by decide)]
  refine c_loop hl hx 101 0 0 300 _ r0 (by omega) (by decide) (Nat.zero_le _) (Nat.le_refl _) (ht.cg (by rw [fr 0 (by decide)]) (fr 1 (by decide))) (by rw [f10, up_k (by decide), up_k (by decide), up_k (by decide), up_eq]) (by rw [f10, up_k (by decide), up_k (by decide), up_eq]; rfl) ?_ r0_ok fr
  refine ⟨?_, ?_, ?_, fun t ht => absurd ht (Nat.not_lt_zero t), fun s hs => ?_, fun j hj => ?_, fun t ht => ⟨?_, ?_, ?_⟩, up_eq, by rw [f10, up_k (by decide), up_eq]; rfl, by rw [f10, up_eq]; rfl⟩
  · rw [up_a (by decide), fl_ne (by decide), fl_ne (by decide), fl_ne (by decide), fl_ne (by decide), fl_ne (by decide), fl_ne (by decide), up_k (by decide), up_k (by decide), up_eq]; rfl
  · rw [up_a (by decide), fl_ne (by decide), fl_ne (by decide), fl_ne (by decide), fl_ne (by decide), fl_ne (by decide), fl_ne (by decide), up_k (by decide), up_eq]; rfl
  · rw [up_a (by decide), fl_ne (by decide), fl_ne (by decide), fl_ne (by decide), fl_ne (by decide), fl_ne (by decide), fl_ne (by decide), up_eq]; rfl
  · rw [up_a (by decide), fl_ne (by decide), fl_ne (by decide), fl_ne (by decide), fl_ne (by decide), fl_in (n := 4) hs]; rfl
  · rw [up_a (by decide), fl_ne (by decide), fl_ne (by decide), fl_ne (by decide), fl_in hj]
  · rw [up_a (by decide), fl_ne (by decide), fl_ne (by decide), fl_in ht]; rfl
  · rw [up_a (by decide), fl_ne (by decide), fl_in ht]; rfl
  · rw [up_a (by decide), fl_in ht]; rfl
/-- nothing of what is held lies in the cells of reading -/
theorem Cls.rd {z : sS} {V' : xV} (h : Cls z V) (e : ∀ a, a < 10 ∨ 18 < a → V' a = V a) : Cls z V' := by
  obtain ⟨h1, h2, h3, h4, h5, h6, h7⟩ := h
  exact ⟨h1.cg (by rw [e 0 (by decide)]) (e 1 (by decide)), h2.cg (fun a _ _ => e a (by omega)), h3.cg (fun a _ _ => e a (by omega)), h4.cg (fun a _ _ => e a (by omega)), h5.cg (by rw [e 0 (by decide)]) (fun a _ _ => e a (by omega)), h6.cg (by rw [e 0 (by decide)]) (e 72 (by decide)), h7.cg (fun a _ _ => e a (by omega))⟩
def c_tkn (V : xV) : xV := x_up (x_up (x_up (x_up (x_up (x_cW (x_cpV (x_cpV (x_up (x_up (x_up V 2 0 (V 11 0)) 2 1 (V 11 1)) 2 2 (V 11 2)) 12 3 6) 13 4 4) 5 14) 19 2 0) 0 7 0) 0 9 0) 0 1 0) 73 5 (-5)
theorem c_tkn_ne {a : Nat} (h0 : a ≠ 0) (h2 : a < 2 ∨ 9 < a) (h19 : a ≠ 19) (h73 : a ≠ 73) : c_tkn V a = V a := by
  unfold c_tkn
  rw [up_a h73, up_a h0, up_a h0, up_a h0, up_a h19, xcW_ne (by omega), cp_ne (by omega), cp_ne (by omega), up_a (by omega), up_a (by omega), up_a (by omega)]
theorem c_tkn_ok {r : rS} (hr : cRs V r) (ho : okR r) (h19 : ∃ y, y < 10 ∧ V 19 1 = nI y) : Cls ([], r.1, r.2.1, [], (none, none), []) (c_tkn V) := by
  obtain ⟨r1, r2, r3, r4, r5, r6, r7, r8, r9, r10⟩ := hr
  obtain ⟨o1, o2, o3, o4⟩ := ho
  obtain ⟨y, hy, h19⟩ := h19
  have hT := o1.1
  have hS := o1.2.2.1
  refine ⟨⟨?_, fun i c hc => by simp at hc⟩, ⟨?_, ?_, ?_, fun t ht => ?_, fun s hs => ?_⟩, ?_, ⟨?_, y, hy, ?_, fun i u hu => by simp at hu⟩, ⟨?_, fun w hw => (by cases hw), fun w hw => (by cases hw)⟩, ⟨?_, fun i c hc => by simp at hc⟩, cCa.stale up_eq⟩
  · unfold c_tkn
    rw [up_a (by decide), up_eq]; rfl
  · unfold c_tkn
    rw [up_a (by decide), up_a (by decide), up_a (by decide), up_a (by decide), up_a (by decide), xcW_ne (by decide), cp_ne (by decide), cp_ne (by decide), up_k (by decide), up_k (by decide), up_eq]; exact r1
  · unfold c_tkn
    rw [up_a (by decide), up_a (by decide), up_a (by decide), up_a (by decide), up_a (by decide), xcW_ne (by decide), cp_ne (by decide), cp_ne (by decide), up_k (by decide), up_eq]; exact r2
  · unfold c_tkn
    rw [up_a (by decide), up_a (by decide), up_a (by decide), up_a (by decide), up_a (by decide), xcW_ne (by decide), cp_ne (by decide), cp_ne (by decide), up_eq]; exact r3
  · have ht : t < r.1.1 := ht
    unfold c_tkn
    rw [up_a (by decide), up_a (by decide), up_a (by decide), up_a (by decide), up_a (by decide), xcW_ne (by decide), cp_ne (by decide), cp_y (by omega), up_a (by decide), up_a (by decide), up_a (by decide)]; exact r4 t ht
  · have hs : s < r.1.2.1 := hs
    unfold c_tkn
    rw [up_a (by decide), up_a (by decide), up_a (by decide), up_a (by decide), up_a (by decide), xcW_ne (by decide), cp_y (by omega), cp_ne (by decide), up_a (by decide), up_a (by decide), up_a (by decide)]; exact r5 s hs
  · have h14 : cW r.1 V 14 r.2.1 := by
      refine ⟨fun s b hs hb => ?_, fun t ht => r7 t ht, by rw [o4]; exact r8⟩
      obtain ⟨l1, l2⟩ := slot_lt o1 hs hb
      rw [o3]
      exact r6 _ (by omega)
    have h14' : cW r.1 (x_cpV (x_cpV (x_up (x_up (x_up V 2 0 (V 11 0)) 2 1 (V 11 1)) 2 2 (V 11 2)) 12 3 6) 13 4 4) 14 r.2.1 := h14.cg (fun b _ _ => by rw [cp_ne (by omega), cp_ne (by omega), up_a (by omega), up_a (by omega), up_a (by omega)])
    refine (xcW_is (w := 5) o1 (by decide) h14').cg (fun b _ _ => ?_)
    unfold c_tkn
    rw [up_a (by omega), up_a (by omega), up_a (by omega), up_a (by omega), up_a (by omega)]
  · unfold c_tkn
    rw [up_a (by decide), up_a (by decide), up_a (by decide), up_a (by decide), up_eq]; rfl
  · unfold c_tkn
    rw [up_a (by decide), up_a (by decide), up_a (by decide), up_a (by decide), up_k (by decide), xcW_ne (by decide), cp_ne (by decide), cp_ne (by decide), up_a (by decide), up_a (by decide), up_a (by decide)]; exact h19
  · unfold c_tkn
    rw [up_a (by decide), up_k (by decide), up_k (by decide), up_eq]; rfl
  · unfold c_tkn
    rw [up_a (by decide), up_k (by decide), up_eq]; rfl
def hOut (z : sS) (x : List Int32) (A : Int32 → sS → Prop) : Prop := match pAll x 101 r0 0 0 with
  | .inl s => A (-10 - nI s) z
  | .inr o => A (nI o.2) ([], o.1.1, o.1.2.1, [], (none, none), [])
theorem c_house {d : sT} {w : sW} {hi : List sW} {im : Option sW × Option sW} {se : List Int32} (hl : x.length ≤ 100) (hx : ∀ c ∈ x, 0 ≤ c.toInt ∧ c.toInt ≤ 255) (h : Cls (x, d, w, hi, im, se) V) : hOut (x, d, w, hi, im, se) x (fun r z' => ∃ V1, f_X6_house V = some (r, V1) ∧ Cls z' V1 ∧ frC V V1) := by
  obtain ⟨b, V2, e, f1, q⟩ := c_rAll hl hx h.1
  have g := g_all (x := x) 101 0 0 r0 (Nat.zero_le _) (Nat.le_refl _) r0_ok
  unfold hOut f_X6_house
  rw [show V 0 1 = nI x.length from h.1.1, e, x_b2_some]
  cases hq : pAll x 101 r0 0 0 with
  | inl s =>
    rw [hq] at q
    obtain ⟨rfl, q2⟩ := q
    rw [if_neg (by decide)]
    refine ⟨V2, ?_, h.rd f1, fun a ha => f1 a (by omega)⟩
    unfold f_X1_place
    rw [x_b2_some, q2]
  | inr o =>
    rw [hq] at q g
    obtain ⟨rfl, q2⟩ := q
    obtain ⟨⟨g1, g2, g3, g4⟩, g5⟩ := g
    rw [if_pos (by rw [i_le, i_n (by omega), i_0]; omega)]
    obtain ⟨-, y, hy, h19, -⟩ := h.2.2.2.1
    refine ⟨c_tkn V2, rfl, c_tkn_ok q2 ⟨g1, g2, g3, g4⟩ ⟨y, hy, by rw [f1 19 (by decide)]; exact h19⟩, fun a ha => by rw [c_tkn_ne (by omega) (by omega) (by omega) (by omega), f1 a (by omega)]⟩
end CH
