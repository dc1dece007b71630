def f_X7_isOn (a0 : Int32) (V : xV) : Option (Int32 × xV) := x_b2 (f_X7_has (V 103 26) a0 V) (fun x3 V2 => if x3 = 0 ∨ x3 = 1 then some (x3, V2) else none)
theorem f_X7_isOn_ok {a0 : Int32} {V W : xV} {x : Int32} (h : f_X7_isOn a0 V = some (x, W)) : x_Rn (1) 124 [.ref 96, .int a0] V (some x) W := by
  refine ⟨2, kX7_isOn, rfl, ?_⟩
  show x_Ex (1) kX7_isOn 0 [.ref 96, .int a0] [] V (some x) W
  unfold f_X7_isOn at h
  refine q_go 3 (pc' := 6) (ls' := [.ref 96, .int a0]) (st' := [.int (26 : Int32), .ref 103]) (V' := V) rfl ?_
  refine q_ald (Or.inl ⟨rfl, rfl⟩) rfl rfl ?_
  refine q_go 1 (pc' := 8) (ls' := [.ref 96, .int a0]) (st' := [.int a0, .int (V 103 26)]) (V' := V) rfl ?_
  obtain ⟨x3, V2, hc1, h⟩ := x_b2_eq h
  refine q_call (d := (0)) (as := [.int (V 103 26), .int a0]) (pc' := 11) (ls' := [.ref 96, .int a0]) (st' := []) (r1 := some x3) rfl rfl ((f_X7_has_ok hc1).up (by decide)) ?_
  refine x_em (p := x3 = 0 ∨ x3 = 1) (fun hz => by rw [if_neg hz] at h; cases h) (fun hc4 => ?_)
  rw [if_pos hc4] at h
  obtain ⟨rfl, rfl⟩ := x_p2 h
  exact q_retz rfl rfl hc4
def f_X7_mayStand_J117 (l1 : Int32) (l2 : Int32) (l3 : Int32) (l4 : Int32) (l5 : Int32) (l6 : Int32) (V : xV) : Option (Int32 × xV) := if l5 = 0 then (some ((1 : Int32), V)) else (if x_in (l1 - 1) 8 = true then (if l3 = (V 108 ((l1 - 1).toNatClampNeg)) then (some ((0 : Int32), V)) else (x_b2 (f_X7_isOn (2 : Int32) V) (fun x17 V16 => if x17 = 0 then (some ((1 : Int32), V16)) else (if x_in ((20 : Int32) + l3) 27 = true then (x_b2 (f_X7_has (V16 103 (((20 : Int32) + l3).toNatClampNeg)) (V16 108 ((l1 - 1).toNatClampNeg)) V16) (fun x22 V21 => if x22 = 0 then (some ((1 : Int32), V21)) else (some ((0 : Int32), V21)))) else none)))) else none)
theorem f_X7_mayStand_J117_ok (l1 : Int32) (l2 : Int32) (l3 : Int32) (l4 : Int32) (l5 : Int32) (l6 : Int32) (V : xV) {x : Int32} {W : xV} (h : f_X7_mayStand_J117 l1 l2 l3 l4 l5 l6 V = some (x, W)) : x_Ex (2) kX7_mayStand 117 [.ref 96, .int l1, .int l2, .int l3, .int l4, .int l5, .int l6] [] V (some x) W := by
  unfold f_X7_mayStand_J117 at h
  refine q_go 1 (pc' := 119) (ls' := [.ref 96, .int l1, .int l2, .int l3, .int l4, .int l5, .int l6]) (st' := [.int l5]) (V' := V) rfl ?_
  by_cases hc12 : l5 = 0
  · rw [if_pos hc12] at h
    refine q_if rfl (fun _ => ?_) (fun c => absurd hc12 (of_decide_eq_false c))
    refine q_go 2 (pc' := 170) (ls' := [.ref 96, .int l1, .int l2, .int l3, .int l4, .int l5, .int l6]) (st' := [.int (1 : Int32)]) (V' := V) rfl ?_
    obtain ⟨rfl, rfl⟩ := x_p2 h
    exact q_ret rfl rfl
  · rw [if_neg hc12] at h
    refine q_if rfl (fun c => absurd (of_decide_eq_true c) hc12) (fun _ => ?_)
    refine q_go 6 (pc' := 130) (ls' := [.ref 96, .int l1, .int l2, .int l3, .int l4, .int l5, .int l6]) (st' := [.int (l1 - 1), .ref 108, .int l3]) (V' := V) rfl ?_
    refine x_em (p := x_in (l1 - 1) 8 = true) (fun hz => by rw [if_neg hz] at h; cases h) (fun hc13 => ?_)
    rw [if_pos hc13] at h
    refine q_ald (Or.inl ⟨rfl, rfl⟩) rfl hc13 ?_
    by_cases hc14 : l3 = (V 108 ((l1 - 1).toNatClampNeg))
    · rw [if_pos hc14] at h
      refine q_icmp rfl (fun _ => ?_) (fun c => absurd hc14 (of_decide_eq_false c))
      refine q_go 1 (pc' := 170) (ls' := [.ref 96, .int l1, .int l2, .int l3, .int l4, .int l5, .int l6]) (st' := [.int (0 : Int32)]) (V' := V) rfl ?_
      obtain ⟨rfl, rfl⟩ := x_p2 h
      exact q_ret rfl rfl
    · rw [if_neg hc14] at h
      refine q_icmp rfl (fun c => absurd (of_decide_eq_true c) hc14) (fun _ => ?_)
      refine q_go 2 (pc' := 136) (ls' := [.ref 96, .int l1, .int l2, .int l3, .int l4, .int l5, .int l6]) (st' := [.int (2 : Int32), .ref 96]) (V' := V) rfl ?_
      obtain ⟨x17, V16, hc15, h⟩ := x_b2_eq h
      refine q_call (d := (1)) (as := [.ref 96, .int (2 : Int32)]) (pc' := 139) (ls' := [.ref 96, .int l1, .int l2, .int l3, .int l4, .int l5, .int l6]) (st' := []) (r1 := some x17) rfl rfl ((f_X7_isOn_ok hc15).up (by decide)) ?_
      by_cases hc18 : x17 = 0
      · rw [if_pos hc18] at h
        refine q_if rfl (fun _ => ?_) (fun c => absurd hc18 (of_decide_eq_false c))
        refine q_go 2 (pc' := 170) (ls' := [.ref 96, .int l1, .int l2, .int l3, .int l4, .int l5, .int l6]) (st' := [.int (1 : Int32)]) (V' := V16) rfl ?_
        obtain ⟨rfl, rfl⟩ := x_p2 h
        exact q_ret rfl rfl
      · rw [if_neg hc18] at h
        refine q_if rfl (fun c => absurd (of_decide_eq_true c) hc18) (fun _ => ?_)
        refine q_go 5 (pc' := 150) (ls' := [.ref 96, .int l1, .int l2, .int l3, .int l4, .int l5, .int l6]) (st' := [.int ((20 : Int32) + l3), .ref 103]) (V' := V16) rfl ?_
        refine x_em (p := x_in ((20 : Int32) + l3) 27 = true) (fun hz => by rw [if_neg hz] at h; cases h) (fun hc19 => ?_)
        rw [if_pos hc19] at h
        refine q_ald (Or.inl ⟨rfl, rfl⟩) rfl hc19 ?_
        refine q_go 5 (pc' := 158) (ls' := [.ref 96, .int l1, .int l2, .int l3, .int l4, .int l5, .int l6]) (st' := [.int (l1 - 1), .ref 108, .int (V16 103 (((20 : Int32) + l3).toNatClampNeg))]) (V' := V16) rfl ?_
        refine q_ald (Or.inl ⟨rfl, rfl⟩) rfl hc13 ?_
        obtain ⟨x22, V21, hc20, h⟩ := x_b2_eq h
        refine q_call (d := (1)) (as := [.int (V16 103 (((20 : Int32) + l3).toNatClampNeg)), .int (V16 108 ((l1 - 1).toNatClampNeg))]) (pc' := 162) (ls' := [.ref 96, .int l1, .int l2, .int l3, .int l4, .int l5, .int l6]) (st' := []) (r1 := some x22) rfl rfl ((f_X7_has_ok hc20).up (by decide)) ?_
        by_cases hc23 : x22 = 0
        · rw [if_pos hc23] at h
          refine q_if rfl (fun c => absurd hc23 (of_decide_eq_true c)) (fun _ => ?_)
          refine q_go 2 (pc' := 170) (ls' := [.ref 96, .int l1, .int l2, .int l3, .int l4, .int l5, .int l6]) (st' := [.int (1 : Int32)]) (V' := V21) rfl ?_
          obtain ⟨rfl, rfl⟩ := x_p2 h
          exact q_ret rfl rfl
        · rw [if_neg hc23] at h
          refine q_if rfl (fun _ => ?_) (fun c => absurd hc23 (of_decide_eq_false c))
          refine q_go 1 (pc' := 170) (ls' := [.ref 96, .int l1, .int l2, .int l3, .int l4, .int l5, .int l6]) (st' := [.int (0 : Int32)]) (V' := V21) rfl ?_
          obtain ⟨rfl, rfl⟩ := x_p2 h
          exact q_ret rfl rfl
def f_X7_mayStand_J67 (l1 : Int32) (l2 : Int32) (l3 : Int32) (l4 : Int32) (l5 : Int32) (l6 : Int32) (V : xV) : Option (Int32 × xV) := x_b2 (f_X7_isOn (1 : Int32) V) (fun x10 V9 => if x10 = 0 then (f_X7_mayStand_J117 l1 l2 l3 l4 l5 l6 V9) else (if x_in ((8 : Int32) + l3) 27 = true then (if (V9 103 (((8 : Int32) + l3).toNatClampNeg)) = (-9 : Int32) then (f_X7_mayStand_J117 l1 l2 l3 l4 l5 l6 V9) else (if x_in ((14 : Int32) + l3) 27 = true then (x_b2 (f_X7_in l4 (V9 103 (((8 : Int32) + l3).toNatClampNeg)) (V9 103 (((14 : Int32) + l3).toNatClampNeg)) V9) (fun x29 V28 => if x29 = 0 then (f_X7_mayStand_J117 l1 l2 l3 l4 l5 l6 V28) else (some ((0 : Int32), V28)))) else none)) else none))
theorem f_X7_mayStand_J67_ok (l1 : Int32) (l2 : Int32) (l3 : Int32) (l4 : Int32) (l5 : Int32) (l6 : Int32) (V : xV) {x : Int32} {W : xV} (h : f_X7_mayStand_J67 l1 l2 l3 l4 l5 l6 V = some (x, W)) : x_Ex (2) kX7_mayStand 67 [.ref 96, .int l1, .int l2, .int l3, .int l4, .int l5, .int l6] [] V (some x) W := by
  unfold f_X7_mayStand_J67 at h
  refine q_go 2 (pc' := 69) (ls' := [.ref 96, .int l1, .int l2, .int l3, .int l4, .int l5, .int l6]) (st' := [.int (1 : Int32), .ref 96]) (V' := V) rfl ?_
  obtain ⟨x10, V9, hc8, h⟩ := x_b2_eq h
  refine q_call (d := (1)) (as := [.ref 96, .int (1 : Int32)]) (pc' := 72) (ls' := [.ref 96, .int l1, .int l2, .int l3, .int l4, .int l5, .int l6]) (st' := []) (r1 := some x10) rfl rfl ((f_X7_isOn_ok hc8).up (by decide)) ?_
  by_cases hc11 : x10 = 0
  · rw [if_pos hc11] at h
    refine q_if rfl (fun _ => ?_) (fun c => absurd hc11 (of_decide_eq_false c))
    exact f_X7_mayStand_J117_ok l1 l2 l3 l4 l5 l6 V9  h
  · rw [if_neg hc11] at h
    refine q_if rfl (fun c => absurd (of_decide_eq_true c) hc11) (fun _ => ?_)
    refine q_go 5 (pc' := 83) (ls' := [.ref 96, .int l1, .int l2, .int l3, .int l4, .int l5, .int l6]) (st' := [.int ((8 : Int32) + l3), .ref 103]) (V' := V9) rfl ?_
    refine x_em (p := x_in ((8 : Int32) + l3) 27 = true) (fun hz => by rw [if_neg hz] at h; cases h) (fun hc24 => ?_)
    rw [if_pos hc24] at h
    refine q_ald (Or.inl ⟨rfl, rfl⟩) rfl hc24 ?_
    refine q_go 1 (pc' := 86) (ls' := [.ref 96, .int l1, .int l2, .int l3, .int l4, .int l5, .int l6]) (st' := [.int (-9 : Int32), .int (V9 103 (((8 : Int32) + l3).toNatClampNeg))]) (V' := V9) rfl ?_
    by_cases hc25 : (V9 103 (((8 : Int32) + l3).toNatClampNeg)) = (-9 : Int32)
    · rw [if_pos hc25] at h
      refine q_icmp rfl (fun _ => ?_) (fun c => absurd hc25 (of_decide_eq_false c))
      exact f_X7_mayStand_J117_ok l1 l2 l3 l4 l5 l6 V9  h
    · rw [if_neg hc25] at h
      refine q_icmp rfl (fun c => absurd (of_decide_eq_true c) hc25) (fun _ => ?_)
      refine q_go 6 (pc' := 99) (ls' := [.ref 96, .int l1, .int l2, .int l3, .int l4, .int l5, .int l6]) (st' := [.int ((8 : Int32) + l3), .ref 103, .int l4]) (V' := V9) rfl ?_
      refine q_ald (Or.inl ⟨rfl, rfl⟩) rfl hc24 ?_
      refine q_go 5 (pc' := 108) (ls' := [.ref 96, .int l1, .int l2, .int l3, .int l4, .int l5, .int l6]) (st' := [.int ((14 : Int32) + l3), .ref 103, .int (V9 103 (((8 : Int32) + l3).toNatClampNeg)), .int l4]) (V' := V9) rfl ?_
      refine x_em (p := x_in ((14 : Int32) + l3) 27 = true) (fun hz => by rw [if_neg hz] at h; cases h) (fun hc26 => ?_)
      rw [if_pos hc26] at h
      refine q_ald (Or.inl ⟨rfl, rfl⟩) rfl hc26 ?_
      obtain ⟨x29, V28, hc27, h⟩ := x_b2_eq h
      refine q_call (d := (1)) (as := [.int l4, .int (V9 103 (((8 : Int32) + l3).toNatClampNeg)), .int (V9 103 (((14 : Int32) + l3).toNatClampNeg))]) (pc' := 112) (ls' := [.ref 96, .int l1, .int l2, .int l3, .int l4, .int l5, .int l6]) (st' := []) (r1 := some x29) rfl rfl ((f_X7_in_ok hc27).up (by decide)) ?_
      by_cases hc30 : x29 = 0
      · rw [if_pos hc30] at h
        refine q_if rfl (fun _ => ?_) (fun c => absurd hc30 (of_decide_eq_false c))
        exact f_X7_mayStand_J117_ok l1 l2 l3 l4 l5 l6 V28  h
      · rw [if_neg hc30] at h
        refine q_if rfl (fun c => absurd (of_decide_eq_true c) hc30) (fun _ => ?_)
        refine q_go 1 (pc' := 116) (ls' := [.ref 96, .int l1, .int l2, .int l3, .int l4, .int l5, .int l6]) (st' := [.int (0 : Int32)]) (V' := V28) rfl ?_
        obtain ⟨rfl, rfl⟩ := x_p2 h
        exact q_ret rfl rfl
def f_X7_mayStand (a0 : Int32) (a1 : Int32) (V : xV) : Option (Int32 × xV) := if x_in a0 8 = true then (if (V 96 10) = 0 then none else (if (V 96 10) = 0 then none else (if x_in (((0 : Int32) + ((2 : Int32) * (a0 / (V 96 10)))) + (a0 - a0 / (V 96 10) * (V 96 10))) 27 = true then (if (V 108 (a0.toNatClampNeg)) = a1 then (some ((0 : Int32), V)) else (x_b2 (f_X7_isOn (3 : Int32) V) (fun x6 V5 => if x6 = 0 then (f_X7_mayStand_J67 a0 a1 (V 108 (a0.toNatClampNeg)) (a0 / (V 96 10)) (a0 - a0 / (V 96 10) * (V 96 10)) (V 103 ((((0 : Int32) + ((2 : Int32) * (a0 / (V 96 10)))) + (a0 - a0 / (V 96 10) * (V 96 10))).toNatClampNeg)) V5) else (if (V 103 ((((0 : Int32) + ((2 : Int32) * (a0 / (V 96 10)))) + (a0 - a0 / (V 96 10) * (V 96 10))).toNatClampNeg)) = (-9 : Int32) then (f_X7_mayStand_J67 a0 a1 (V 108 (a0.toNatClampNeg)) (a0 / (V 96 10)) (a0 - a0 / (V 96 10) * (V 96 10)) (V 103 ((((0 : Int32) + ((2 : Int32) * (a0 / (V 96 10)))) + (a0 - a0 / (V 96 10) * (V 96 10))).toNatClampNeg)) V5) else (if (V 103 ((((0 : Int32) + ((2 : Int32) * (a0 / (V 96 10)))) + (a0 - a0 / (V 96 10) * (V 96 10))).toNatClampNeg)) = (V 108 (a0.toNatClampNeg)) then (f_X7_mayStand_J67 a0 a1 (V 108 (a0.toNatClampNeg)) (a0 / (V 96 10)) (a0 - a0 / (V 96 10) * (V 96 10)) (V 103 ((((0 : Int32) + ((2 : Int32) * (a0 / (V 96 10)))) + (a0 - a0 / (V 96 10) * (V 96 10))).toNatClampNeg)) V5) else (some ((0 : Int32), V5))))))) else none))) else none
theorem f_X7_mayStand_ok {a0 : Int32} {a1 : Int32} {V W : xV} {x : Int32} (h : f_X7_mayStand a0 a1 V = some (x, W)) : x_Rn (2) 125 [.ref 96, .int a0, .int a1] V (some x) W := by
  refine ⟨7, kX7_mayStand, rfl, ?_⟩
  show x_Ex (2) kX7_mayStand 0 [.ref 96, .int a0, .int a1, .long 0, .long 0, .long 0, .long 0] [] V (some x) W
  unfold f_X7_mayStand at h
  refine q_go 3 (pc' := 5) (ls' := [.ref 96, .int a0, .int a1, .long 0, .long 0, .long 0, .long 0]) (st' := [.int a0, .ref 108]) (V' := V) rfl ?_
  refine x_em (p := x_in a0 8 = true) (fun hz => by rw [if_neg hz] at h; cases h) (fun hc1 => ?_)
  rw [if_pos hc1] at h
  refine q_ald (Or.inl ⟨rfl, rfl⟩) rfl hc1 ?_
  refine q_go 4 (pc' := 12) (ls' := [.ref 96, .int a0, .int a1, .int (V 108 (a0.toNatClampNeg)), .long 0, .long 0, .long 0]) (st' := [.int (V 96 10), .int a0]) (V' := V) rfl ?_
  by_cases hc34 : (V 96 10) = 0
  · rw [if_pos hc34] at h; cases h
  rw [if_neg hc34] at h
  refine q_div rfl hc34 (Nat.le_of_ble_eq_true rfl) ?_
  refine q_go 4 (pc' := 20) (ls' := [.ref 96, .int a0, .int a1, .int (V 108 (a0.toNatClampNeg)), .int (a0 / (V 96 10)), .long 0, .long 0]) (st' := [.int (V 96 10), .int a0]) (V' := V) rfl ?_
  by_cases hc33 : (V 96 10) = 0
  · rw [if_pos hc33] at h; cases h
  rw [if_neg hc33] at h
  refine q_rem rfl hc33 (Nat.le_of_ble_eq_true rfl) ?_
  refine q_go 10 (pc' := 36) (ls' := [.ref 96, .int a0, .int a1, .int (V 108 (a0.toNatClampNeg)), .int (a0 / (V 96 10)), .int (a0 - a0 / (V 96 10) * (V 96 10)), .long 0]) (st' := [.int (((0 : Int32) + ((2 : Int32) * (a0 / (V 96 10)))) + (a0 - a0 / (V 96 10) * (V 96 10))), .ref 103]) (V' := V) rfl ?_
  refine x_em (p := x_in (((0 : Int32) + ((2 : Int32) * (a0 / (V 96 10)))) + (a0 - a0 / (V 96 10) * (V 96 10))) 27 = true) (fun hz => by rw [if_neg hz] at h; cases h) (fun hc2 => ?_)
  rw [if_pos hc2] at h
  refine q_ald (Or.inl ⟨rfl, rfl⟩) rfl hc2 ?_
  refine q_go 3 (pc' := 41) (ls' := [.ref 96, .int a0, .int a1, .int (V 108 (a0.toNatClampNeg)), .int (a0 / (V 96 10)), .int (a0 - a0 / (V 96 10) * (V 96 10)), .int (V 103 ((((0 : Int32) + ((2 : Int32) * (a0 / (V 96 10)))) + (a0 - a0 / (V 96 10) * (V 96 10))).toNatClampNeg))]) (st' := [.int a1, .int (V 108 (a0.toNatClampNeg))]) (V' := V) rfl ?_
  by_cases hc3 : (V 108 (a0.toNatClampNeg)) = a1
  · rw [if_pos hc3] at h
    refine q_icmp rfl (fun _ => ?_) (fun c => absurd hc3 (of_decide_eq_false c))
    refine q_go 1 (pc' := 66) (ls' := [.ref 96, .int a0, .int a1, .int (V 108 (a0.toNatClampNeg)), .int (a0 / (V 96 10)), .int (a0 - a0 / (V 96 10) * (V 96 10)), .int (V 103 ((((0 : Int32) + ((2 : Int32) * (a0 / (V 96 10)))) + (a0 - a0 / (V 96 10) * (V 96 10))).toNatClampNeg))]) (st' := [.int (0 : Int32)]) (V' := V) rfl ?_
    obtain ⟨rfl, rfl⟩ := x_p2 h
    exact q_ret rfl rfl
  · rw [if_neg hc3] at h
    refine q_icmp rfl (fun c => absurd (of_decide_eq_true c) hc3) (fun _ => ?_)
    refine q_go 2 (pc' := 46) (ls' := [.ref 96, .int a0, .int a1, .int (V 108 (a0.toNatClampNeg)), .int (a0 / (V 96 10)), .int (a0 - a0 / (V 96 10) * (V 96 10)), .int (V 103 ((((0 : Int32) + ((2 : Int32) * (a0 / (V 96 10)))) + (a0 - a0 / (V 96 10) * (V 96 10))).toNatClampNeg))]) (st' := [.int (3 : Int32), .ref 96]) (V' := V) rfl ?_
    obtain ⟨x6, V5, hc4, h⟩ := x_b2_eq h
    refine q_call (d := (1)) (as := [.ref 96, .int (3 : Int32)]) (pc' := 49) (ls' := [.ref 96, .int a0, .int a1, .int (V 108 (a0.toNatClampNeg)), .int (a0 / (V 96 10)), .int (a0 - a0 / (V 96 10) * (V 96 10)), .int (V 103 ((((0 : Int32) + ((2 : Int32) * (a0 / (V 96 10)))) + (a0 - a0 / (V 96 10) * (V 96 10))).toNatClampNeg))]) (st' := []) (r1 := some x6) rfl rfl ((f_X7_isOn_ok hc4).up (by decide)) ?_
    by_cases hc7 : x6 = 0
    · rw [if_pos hc7] at h
      refine q_if rfl (fun _ => ?_) (fun c => absurd hc7 (of_decide_eq_false c))
      exact f_X7_mayStand_J67_ok a0 a1 (V 108 (a0.toNatClampNeg)) (a0 / (V 96 10)) (a0 - a0 / (V 96 10) * (V 96 10)) (V 103 ((((0 : Int32) + ((2 : Int32) * (a0 / (V 96 10)))) + (a0 - a0 / (V 96 10) * (V 96 10))).toNatClampNeg)) V5  h
    · rw [if_neg hc7] at h
      refine q_if rfl (fun c => absurd (of_decide_eq_true c) hc7) (fun _ => ?_)
      refine q_go 2 (pc' := 56) (ls' := [.ref 96, .int a0, .int a1, .int (V 108 (a0.toNatClampNeg)), .int (a0 / (V 96 10)), .int (a0 - a0 / (V 96 10) * (V 96 10)), .int (V 103 ((((0 : Int32) + ((2 : Int32) * (a0 / (V 96 10)))) + (a0 - a0 / (V 96 10) * (V 96 10))).toNatClampNeg))]) (st' := [.int (-9 : Int32), .int (V 103 ((((0 : Int32) + ((2 : Int32) * (a0 / (V 96 10)))) + (a0 - a0 / (V 96 10) * (V 96 10))).toNatClampNeg))]) (V' := V5) rfl ?_
      by_cases hc31 : (V 103 ((((0 : Int32) + ((2 : Int32) * (a0 / (V 96 10)))) + (a0 - a0 / (V 96 10) * (V 96 10))).toNatClampNeg)) = (-9 : Int32)
      · rw [if_pos hc31] at h
        refine q_icmp rfl (fun _ => ?_) (fun c => absurd hc31 (of_decide_eq_false c))
        exact f_X7_mayStand_J67_ok a0 a1 (V 108 (a0.toNatClampNeg)) (a0 / (V 96 10)) (a0 - a0 / (V 96 10) * (V 96 10)) (V 103 ((((0 : Int32) + ((2 : Int32) * (a0 / (V 96 10)))) + (a0 - a0 / (V 96 10) * (V 96 10))).toNatClampNeg)) V5  h
      · rw [if_neg hc31] at h
        refine q_icmp rfl (fun c => absurd (of_decide_eq_true c) hc31) (fun _ => ?_)
        refine q_go 2 (pc' := 62) (ls' := [.ref 96, .int a0, .int a1, .int (V 108 (a0.toNatClampNeg)), .int (a0 / (V 96 10)), .int (a0 - a0 / (V 96 10) * (V 96 10)), .int (V 103 ((((0 : Int32) + ((2 : Int32) * (a0 / (V 96 10)))) + (a0 - a0 / (V 96 10) * (V 96 10))).toNatClampNeg))]) (st' := [.int (V 108 (a0.toNatClampNeg)), .int (V 103 ((((0 : Int32) + ((2 : Int32) * (a0 / (V 96 10)))) + (a0 - a0 / (V 96 10) * (V 96 10))).toNatClampNeg))]) (V' := V5) rfl ?_
        by_cases hc32 : (V 103 ((((0 : Int32) + ((2 : Int32) * (a0 / (V 96 10)))) + (a0 - a0 / (V 96 10) * (V 96 10))).toNatClampNeg)) = (V 108 (a0.toNatClampNeg))
        · rw [if_pos hc32] at h
          refine q_icmp rfl (fun _ => ?_) (fun c => absurd hc32 (of_decide_eq_false c))
          exact f_X7_mayStand_J67_ok a0 a1 (V 108 (a0.toNatClampNeg)) (a0 / (V 96 10)) (a0 - a0 / (V 96 10) * (V 96 10)) (V 103 ((((0 : Int32) + ((2 : Int32) * (a0 / (V 96 10)))) + (a0 - a0 / (V 96 10) * (V 96 10))).toNatClampNeg)) V5  h
        · rw [if_neg hc32] at h
          refine q_icmp rfl (fun c => absurd (of_decide_eq_true c) hc32) (fun _ => ?_)
          refine q_go 1 (pc' := 66) (ls' := [.ref 96, .int a0, .int a1, .int (V 108 (a0.toNatClampNeg)), .int (a0 / (V 96 10)), .int (a0 - a0 / (V 96 10) * (V 96 10)), .int (V 103 ((((0 : Int32) + ((2 : Int32) * (a0 / (V 96 10)))) + (a0 - a0 / (V 96 10) * (V 96 10))).toNatClampNeg))]) (st' := [.int (0 : Int32)]) (V' := V5) rfl ?_
          obtain ⟨rfl, rfl⟩ := x_p2 h
          exact q_ret rfl rfl
def f_X7_changeAt (a0 : Int32) (V : xV) : Option (Int32 × xV) := if a0 < (V 96 10) then (some ((0 : Int32), V)) else (if x_in a0 8 = true then (if x_in (a0 - (V 96 10)) 8 = true then (if (V 108 (a0.toNatClampNeg)) = (V 108 ((a0 - (V 96 10)).toNatClampNeg)) then (some ((0 : Int32), V)) else (some ((1 : Int32), V))) else none) else none)
theorem f_X7_changeAt_ok {a0 : Int32} {V W : xV} {x : Int32} (h : f_X7_changeAt a0 V = some (x, W)) : x_Rn (0) 126 [.ref 96, .int a0] V (some x) W := by
  refine ⟨2, kX7_changeAt, rfl, ?_⟩
  show x_Ex (0) kX7_changeAt 0 [.ref 96, .int a0] [] V (some x) W
  unfold f_X7_changeAt at h
  refine q_go 3 (pc' := 5) (ls' := [.ref 96, .int a0]) (st' := [.int (V 96 10), .int a0]) (V' := V) rfl ?_
  by_cases hc1 : a0 < (V 96 10)
  · rw [if_pos hc1] at h
    refine q_icmp rfl (fun _ => ?_) (fun c => absurd hc1 (of_decide_eq_false c))
    refine q_go 1 (pc' := 33) (ls' := [.ref 96, .int a0]) (st' := [.int (0 : Int32)]) (V' := V) rfl ?_
    obtain ⟨rfl, rfl⟩ := x_p2 h
    exact q_ret rfl rfl
  · rw [if_neg hc1] at h
    refine q_icmp rfl (fun c => absurd (of_decide_eq_true c) hc1) (fun _ => ?_)
    refine q_go 3 (pc' := 13) (ls' := [.ref 96, .int a0]) (st' := [.int a0, .ref 108]) (V' := V) rfl ?_
    refine x_em (p := x_in a0 8 = true) (fun hz => by rw [if_neg hz] at h; cases h) (fun hc2 => ?_)
    rw [if_pos hc2] at h
    refine q_ald (Or.inl ⟨rfl, rfl⟩) rfl hc2 ?_
    refine q_go 6 (pc' := 24) (ls' := [.ref 96, .int a0]) (st' := [.int (a0 - (V 96 10)), .ref 108, .int (V 108 (a0.toNatClampNeg))]) (V' := V) rfl ?_
    refine x_em (p := x_in (a0 - (V 96 10)) 8 = true) (fun hz => by rw [if_neg hz] at h; cases h) (fun hc3 => ?_)
    rw [if_pos hc3] at h
    refine q_ald (Or.inl ⟨rfl, rfl⟩) rfl hc3 ?_
    by_cases hc4 : (V 108 (a0.toNatClampNeg)) = (V 108 ((a0 - (V 96 10)).toNatClampNeg))
    · rw [if_pos hc4] at h
      refine q_icmp rfl (fun _ => ?_) (fun c => absurd hc4 (of_decide_eq_false c))
      refine q_go 1 (pc' := 33) (ls' := [.ref 96, .int a0]) (st' := [.int (0 : Int32)]) (V' := V) rfl ?_
      obtain ⟨rfl, rfl⟩ := x_p2 h
      exact q_ret rfl rfl
    · rw [if_neg hc4] at h
      refine q_icmp rfl (fun c => absurd (of_decide_eq_true c) hc4) (fun _ => ?_)
      refine q_go 2 (pc' := 33) (ls' := [.ref 96, .int a0]) (st' := [.int (1 : Int32)]) (V' := V) rfl ?_
      obtain ⟨rfl, rfl⟩ := x_p2 h
      exact q_ret rfl rfl
def f_X7_fits (a0 : Int32) (a1 : Int32) (a2 : Int32) (V : xV) : Option (Int32 × xV) := if x_in a0 8 = true then (x_b2 (f_X7_mayStand a0 a1 V) (fun x4 V3 => if x4 = 0 then (some ((0 : Int32), V3)) else (if x_in (V 108 (a0.toNatClampNeg)) 6 = true then (if (V3 96 10) = 0 then none else (if x_in (a0 / (V3 96 10)) 4 = true then (if a2 = 0 then (x_b2 (f_X7_isOn (0 : Int32) V3) (fun x11 V10 => if x11 = 0 then (if x_in a0 9 = true then (x_b2 (f_X7_changeAt a0 V10) (fun x16 V15 => if (V15 96 32) < ((V10 109 (a0.toNatClampNeg)) + x16) then (some ((0 : Int32), V15)) else (some ((1 : Int32), V15)))) else none) else (if 0 < (((V3 110 ((V 108 (a0.toNatClampNeg)).toNatClampNeg)) + (V3 98 ((a0 / (V3 96 10)).toNatClampNeg))) - (V3 99 ((V 108 (a0.toNatClampNeg)).toNatClampNeg))) then (some ((0 : Int32), V10)) else (if x_in a0 9 = true then (x_b2 (f_X7_changeAt a0 V10) (fun x22 V21 => if (V21 96 32) < ((V10 109 (a0.toNatClampNeg)) + x22) then (some ((0 : Int32), V21)) else (some ((1 : Int32), V21)))) else none)))) else (if (V3 96 32) ≤ (((V3 110 ((V 108 (a0.toNatClampNeg)).toNatClampNeg)) + (V3 98 ((a0 / (V3 96 10)).toNatClampNeg))) - (V3 99 ((V 108 (a0.toNatClampNeg)).toNatClampNeg))) then (some ((0 : Int32), V3)) else (some ((1 : Int32), V3)))) else none)) else none))) else none
theorem f_X7_fits_ok {a0 : Int32} {a1 : Int32} {a2 : Int32} {V W : xV} {x : Int32} (h : f_X7_fits a0 a1 a2 V = some (x, W)) : x_Rn (3) 127 [.ref 96, .int a0, .int a1, .int a2] V (some x) W := by
  refine ⟨6, kX7_fits, rfl, ?_⟩
  show x_Ex (3) kX7_fits 0 [.ref 96, .int a0, .int a1, .int a2, .long 0, .long 0] [] V (some x) W
  unfold f_X7_fits at h
  refine q_go 3 (pc' := 5) (ls' := [.ref 96, .int a0, .int a1, .int a2, .long 0, .long 0]) (st' := [.int a0, .ref 108]) (V' := V) rfl ?_
  refine x_em (p := x_in a0 8 = true) (fun hz => by rw [if_neg hz] at h; cases h) (fun hc1 => ?_)
  rw [if_pos hc1] at h
  refine q_ald (Or.inl ⟨rfl, rfl⟩) rfl hc1 ?_
  refine q_go 4 (pc' := 11) (ls' := [.ref 96, .int a0, .int a1, .int a2, .int (V 108 (a0.toNatClampNeg)), .long 0]) (st' := [.int a1, .int a0, .ref 96]) (V' := V) rfl ?_
  obtain ⟨x4, V3, hc2, h⟩ := x_b2_eq h
  refine q_call (d := (2)) (as := [.ref 96, .int a0, .int a1]) (pc' := 14) (ls' := [.ref 96, .int a0, .int a1, .int a2, .int (V 108 (a0.toNatClampNeg)), .long 0]) (st' := []) (r1 := some x4) rfl rfl ((f_X7_mayStand_ok hc2).up (by decide)) ?_
  by_cases hc5 : x4 = 0
  · rw [if_pos hc5] at h
    refine q_if rfl (fun c => absurd hc5 (of_decide_eq_true c)) (fun _ => ?_)
    refine q_go 1 (pc' := 18) (ls' := [.ref 96, .int a0, .int a1, .int a2, .int (V 108 (a0.toNatClampNeg)), .long 0]) (st' := [.int (0 : Int32)]) (V' := V3) rfl ?_
    obtain ⟨rfl, rfl⟩ := x_p2 h
    exact q_ret rfl rfl
  · rw [if_neg hc5] at h
    refine q_if rfl (fun _ => ?_) (fun c => absurd hc5 (of_decide_eq_false c))
    refine q_go 3 (pc' := 25) (ls' := [.ref 96, .int a0, .int a1, .int a2, .int (V 108 (a0.toNatClampNeg)), .long 0]) (st' := [.int (V 108 (a0.toNatClampNeg)), .ref 110]) (V' := V3) rfl ?_
    refine x_em (p := x_in (V 108 (a0.toNatClampNeg)) 6 = true) (fun hz => by rw [if_neg hz] at h; cases h) (fun hc6 => ?_)
    rw [if_pos hc6] at h
    refine q_ald (Or.inl ⟨rfl, rfl⟩) rfl hc6 ?_
    refine q_go 5 (pc' := 35) (ls' := [.ref 96, .int a0, .int a1, .int a2, .int (V 108 (a0.toNatClampNeg)), .long 0]) (st' := [.int (V3 96 10), .int a0, .ref 98, .int (V3 110 ((V 108 (a0.toNatClampNeg)).toNatClampNeg))]) (V' := V3) rfl ?_
    by_cases hc25 : (V3 96 10) = 0
    · rw [if_pos hc25] at h; cases h
    rw [if_neg hc25] at h
    refine q_div rfl hc25 (Nat.le_of_ble_eq_true rfl) ?_
    refine x_em (p := x_in (a0 / (V3 96 10)) 4 = true) (fun hz => by rw [if_neg hz] at h; cases h) (fun hc7 => ?_)
    rw [if_pos hc7] at h
    refine q_ald (Or.inl ⟨rfl, rfl⟩) rfl hc7 ?_
    refine q_go 4 (pc' := 44) (ls' := [.ref 96, .int a0, .int a1, .int a2, .int (V 108 (a0.toNatClampNeg)), .long 0]) (st' := [.int (V 108 (a0.toNatClampNeg)), .ref 99, .int ((V3 110 ((V 108 (a0.toNatClampNeg)).toNatClampNeg)) + (V3 98 ((a0 / (V3 96 10)).toNatClampNeg)))]) (V' := V3) rfl ?_
    refine q_ald (Or.inl ⟨rfl, rfl⟩) rfl hc6 ?_
    refine q_go 3 (pc' := 49) (ls' := [.ref 96, .int a0, .int a1, .int a2, .int (V 108 (a0.toNatClampNeg)), .int (((V3 110 ((V 108 (a0.toNatClampNeg)).toNatClampNeg)) + (V3 98 ((a0 / (V3 96 10)).toNatClampNeg))) - (V3 99 ((V 108 (a0.toNatClampNeg)).toNatClampNeg)))]) (st' := [.int a2]) (V' := V3) rfl ?_
    by_cases hc8 : a2 = 0
    · rw [if_pos hc8] at h
      refine q_if rfl (fun _ => ?_) (fun c => absurd hc8 (of_decide_eq_false c))
      refine q_go 2 (pc' := 69) (ls' := [.ref 96, .int a0, .int a1, .int a2, .int (V 108 (a0.toNatClampNeg)), .int (((V3 110 ((V 108 (a0.toNatClampNeg)).toNatClampNeg)) + (V3 98 ((a0 / (V3 96 10)).toNatClampNeg))) - (V3 99 ((V 108 (a0.toNatClampNeg)).toNatClampNeg)))]) (st' := [.int (0 : Int32), .ref 96]) (V' := V3) rfl ?_
      obtain ⟨x11, V10, hc9, h⟩ := x_b2_eq h
      refine q_call (d := (2)) (as := [.ref 96, .int (0 : Int32)]) (pc' := 72) (ls' := [.ref 96, .int a0, .int a1, .int a2, .int (V 108 (a0.toNatClampNeg)), .int (((V3 110 ((V 108 (a0.toNatClampNeg)).toNatClampNeg)) + (V3 98 ((a0 / (V3 96 10)).toNatClampNeg))) - (V3 99 ((V 108 (a0.toNatClampNeg)).toNatClampNeg)))]) (st' := []) (r1 := some x11) rfl rfl ((f_X7_isOn_ok hc9).up (by decide)) ?_
      by_cases hc12 : x11 = 0
      · rw [if_pos hc12] at h
        refine q_if rfl (fun _ => ?_) (fun c => absurd hc12 (of_decide_eq_false c))
        refine q_go 3 (pc' := 85) (ls' := [.ref 96, .int a0, .int a1, .int a2, .int (V 108 (a0.toNatClampNeg)), .int (((V3 110 ((V 108 (a0.toNatClampNeg)).toNatClampNeg)) + (V3 98 ((a0 / (V3 96 10)).toNatClampNeg))) - (V3 99 ((V 108 (a0.toNatClampNeg)).toNatClampNeg)))]) (st' := [.int a0, .ref 109]) (V' := V10) rfl ?_
        refine x_em (p := x_in a0 9 = true) (fun hz => by rw [if_neg hz] at h; cases h) (fun hc13 => ?_)
        rw [if_pos hc13] at h
        refine q_ald (Or.inl ⟨rfl, rfl⟩) rfl hc13 ?_
        refine q_go 2 (pc' := 88) (ls' := [.ref 96, .int a0, .int a1, .int a2, .int (V 108 (a0.toNatClampNeg)), .int (((V3 110 ((V 108 (a0.toNatClampNeg)).toNatClampNeg)) + (V3 98 ((a0 / (V3 96 10)).toNatClampNeg))) - (V3 99 ((V 108 (a0.toNatClampNeg)).toNatClampNeg)))]) (st' := [.int a0, .ref 96, .int (V10 109 (a0.toNatClampNeg))]) (V' := V10) rfl ?_
        obtain ⟨x16, V15, hc14, h⟩ := x_b2_eq h
        refine q_call (d := (2)) (as := [.ref 96, .int a0]) (pc' := 91) (ls' := [.ref 96, .int a0, .int a1, .int a2, .int (V 108 (a0.toNatClampNeg)), .int (((V3 110 ((V 108 (a0.toNatClampNeg)).toNatClampNeg)) + (V3 98 ((a0 / (V3 96 10)).toNatClampNeg))) - (V3 99 ((V 108 (a0.toNatClampNeg)).toNatClampNeg)))]) (st' := [.int (V10 109 (a0.toNatClampNeg))]) (r1 := some x16) rfl rfl ((f_X7_changeAt_ok hc14).up (by decide)) ?_
        refine q_go 3 (pc' := 96) (ls' := [.ref 96, .int a0, .int a1, .int a2, .int (V 108 (a0.toNatClampNeg)), .int (((V3 110 ((V 108 (a0.toNatClampNeg)).toNatClampNeg)) + (V3 98 ((a0 / (V3 96 10)).toNatClampNeg))) - (V3 99 ((V 108 (a0.toNatClampNeg)).toNatClampNeg)))]) (st' := [.int (V15 96 32), .int ((V10 109 (a0.toNatClampNeg)) + x16)]) (V' := V15) rfl ?_
        by_cases hc17 : (V15 96 32) < ((V10 109 (a0.toNatClampNeg)) + x16)
        · rw [if_pos hc17] at h
          refine q_icmp rfl (fun _ => ?_) (fun c => absurd hc17 (of_decide_eq_false c))
          refine q_go 1 (pc' := 104) (ls' := [.ref 96, .int a0, .int a1, .int a2, .int (V 108 (a0.toNatClampNeg)), .int (((V3 110 ((V 108 (a0.toNatClampNeg)).toNatClampNeg)) + (V3 98 ((a0 / (V3 96 10)).toNatClampNeg))) - (V3 99 ((V 108 (a0.toNatClampNeg)).toNatClampNeg)))]) (st' := [.int (0 : Int32)]) (V' := V15) rfl ?_
          obtain ⟨rfl, rfl⟩ := x_p2 h
          exact q_ret rfl rfl
        · rw [if_neg hc17] at h
          refine q_icmp rfl (fun c => absurd (of_decide_eq_true c) hc17) (fun _ => ?_)
          refine q_go 2 (pc' := 104) (ls' := [.ref 96, .int a0, .int a1, .int a2, .int (V 108 (a0.toNatClampNeg)), .int (((V3 110 ((V 108 (a0.toNatClampNeg)).toNatClampNeg)) + (V3 98 ((a0 / (V3 96 10)).toNatClampNeg))) - (V3 99 ((V 108 (a0.toNatClampNeg)).toNatClampNeg)))]) (st' := [.int (1 : Int32)]) (V' := V15) rfl ?_
          obtain ⟨rfl, rfl⟩ := x_p2 h
          exact q_ret rfl rfl
      · rw [if_neg hc12] at h
        refine q_if rfl (fun c => absurd (of_decide_eq_true c) hc12) (fun _ => ?_)
        refine q_go 1 (pc' := 77) (ls' := [.ref 96, .int a0, .int a1, .int a2, .int (V 108 (a0.toNatClampNeg)), .int (((V3 110 ((V 108 (a0.toNatClampNeg)).toNatClampNeg)) + (V3 98 ((a0 / (V3 96 10)).toNatClampNeg))) - (V3 99 ((V 108 (a0.toNatClampNeg)).toNatClampNeg)))]) (st' := [.int (((V3 110 ((V 108 (a0.toNatClampNeg)).toNatClampNeg)) + (V3 98 ((a0 / (V3 96 10)).toNatClampNeg))) - (V3 99 ((V 108 (a0.toNatClampNeg)).toNatClampNeg)))]) (V' := V10) rfl ?_
        by_cases hc18 : 0 < (((V3 110 ((V 108 (a0.toNatClampNeg)).toNatClampNeg)) + (V3 98 ((a0 / (V3 96 10)).toNatClampNeg))) - (V3 99 ((V 108 (a0.toNatClampNeg)).toNatClampNeg)))
        · rw [if_pos hc18] at h
          refine q_if rfl (fun _ => ?_) (fun c => absurd hc18 (of_decide_eq_false c))
          refine q_go 1 (pc' := 104) (ls' := [.ref 96, .int a0, .int a1, .int a2, .int (V 108 (a0.toNatClampNeg)), .int (((V3 110 ((V 108 (a0.toNatClampNeg)).toNatClampNeg)) + (V3 98 ((a0 / (V3 96 10)).toNatClampNeg))) - (V3 99 ((V 108 (a0.toNatClampNeg)).toNatClampNeg)))]) (st' := [.int (0 : Int32)]) (V' := V10) rfl ?_
          obtain ⟨rfl, rfl⟩ := x_p2 h
          exact q_ret rfl rfl
        · rw [if_neg hc18] at h
          refine q_if rfl (fun c => absurd (of_decide_eq_true c) hc18) (fun _ => ?_)
          refine q_go 3 (pc' := 85) (ls' := [.ref 96, .int a0, .int a1, .int a2, .int (V 108 (a0.toNatClampNeg)), .int (((V3 110 ((V 108 (a0.toNatClampNeg)).toNatClampNeg)) + (V3 98 ((a0 / (V3 96 10)).toNatClampNeg))) - (V3 99 ((V 108 (a0.toNatClampNeg)).toNatClampNeg)))]) (st' := [.int a0, .ref 109]) (V' := V10) rfl ?_
          refine x_em (p := x_in a0 9 = true) (fun hz => by rw [if_neg hz] at h; cases h) (fun hc19 => ?_)
          rw [if_pos hc19] at h
          refine q_ald (Or.inl ⟨rfl, rfl⟩) rfl hc19 ?_
          refine q_go 2 (pc' := 88) (ls' := [.ref 96, .int a0, .int a1, .int a2, .int (V 108 (a0.toNatClampNeg)), .int (((V3 110 ((V 108 (a0.toNatClampNeg)).toNatClampNeg)) + (V3 98 ((a0 / (V3 96 10)).toNatClampNeg))) - (V3 99 ((V 108 (a0.toNatClampNeg)).toNatClampNeg)))]) (st' := [.int a0, .ref 96, .int (V10 109 (a0.toNatClampNeg))]) (V' := V10) rfl ?_
          obtain ⟨x22, V21, hc20, h⟩ := x_b2_eq h
          refine q_call (d := (2)) (as := [.ref 96, .int a0]) (pc' := 91) (ls' := [.ref 96, .int a0, .int a1, .int a2, .int (V 108 (a0.toNatClampNeg)), .int (((V3 110 ((V 108 (a0.toNatClampNeg)).toNatClampNeg)) + (V3 98 ((a0 / (V3 96 10)).toNatClampNeg))) - (V3 99 ((V 108 (a0.toNatClampNeg)).toNatClampNeg)))]) (st' := [.int (V10 109 (a0.toNatClampNeg))]) (r1 := some x22) rfl rfl ((f_X7_changeAt_ok hc20).up (by decide)) ?_
          refine q_go 3 (pc' := 96) (ls' := [.ref 96, .int a0, .int a1, .int a2, .int (V 108 (a0.toNatClampNeg)), .int (((V3 110 ((V 108 (a0.toNatClampNeg)).toNatClampNeg)) + (V3 98 ((a0 / (V3 96 10)).toNatClampNeg))) - (V3 99 ((V 108 (a0.toNatClampNeg)).toNatClampNeg)))]) (st' := [.int (V21 96 32), .int ((V10 109 (a0.toNatClampNeg)) + x22)]) (V' := V21) rfl ?_
          by_cases hc23 : (V21 96 32) < ((V10 109 (a0.toNatClampNeg)) + x22)
          · rw [if_pos hc23] at h
            refine q_icmp rfl (fun _ => ?_) (fun c => absurd hc23 (of_decide_eq_false c))
            refine q_go 1 (pc' := 104) (ls' := [.ref 96, .int a0, .int a1, .int a2, .int (V 108 (a0.toNatClampNeg)), .int (((V3 110 ((V 108 (a0.toNatClampNeg)).toNatClampNeg)) + (V3 98 ((a0 / (V3 96 10)).toNatClampNeg))) - (V3 99 ((V 108 (a0.toNatClampNeg)).toNatClampNeg)))]) (st' := [.int (0 : Int32)]) (V' := V21) rfl ?_
            obtain ⟨rfl, rfl⟩ := x_p2 h
            exact q_ret rfl rfl
          · rw [if_neg hc23] at h
            refine q_icmp rfl (fun c => absurd (of_decide_eq_true c) hc23) (fun _ => ?_)
            refine q_go 2 (pc' := 104) (ls' := [.ref 96, .int a0, .int a1, .int a2, .int (V 108 (a0.toNatClampNeg)), .int (((V3 110 ((V 108 (a0.toNatClampNeg)).toNatClampNeg)) + (V3 98 ((a0 / (V3 96 10)).toNatClampNeg))) - (V3 99 ((V 108 (a0.toNatClampNeg)).toNatClampNeg)))]) (st' := [.int (1 : Int32)]) (V' := V21) rfl ?_
            obtain ⟨rfl, rfl⟩ := x_p2 h
            exact q_ret rfl rfl
    · rw [if_neg hc8] at h
      refine q_if rfl (fun c => absurd (of_decide_eq_true c) hc8) (fun _ => ?_)
      refine q_go 3 (pc' := 58) (ls' := [.ref 96, .int a0, .int a1, .int a2, .int (V 108 (a0.toNatClampNeg)), .int (((V3 110 ((V 108 (a0.toNatClampNeg)).toNatClampNeg)) + (V3 98 ((a0 / (V3 96 10)).toNatClampNeg))) - (V3 99 ((V 108 (a0.toNatClampNeg)).toNatClampNeg)))]) (st' := [.int (V3 96 32), .int (((V3 110 ((V 108 (a0.toNatClampNeg)).toNatClampNeg)) + (V3 98 ((a0 / (V3 96 10)).toNatClampNeg))) - (V3 99 ((V 108 (a0.toNatClampNeg)).toNatClampNeg)))]) (V' := V3) rfl ?_
      by_cases hc24 : (V3 96 32) ≤ (((V3 110 ((V 108 (a0.toNatClampNeg)).toNatClampNeg)) + (V3 98 ((a0 / (V3 96 10)).toNatClampNeg))) - (V3 99 ((V 108 (a0.toNatClampNeg)).toNatClampNeg)))
      · rw [if_pos hc24] at h
        refine q_icmp rfl (fun _ => ?_) (fun c => absurd hc24 (of_decide_eq_false c))
        refine q_go 1 (pc' := 66) (ls' := [.ref 96, .int a0, .int a1, .int a2, .int (V 108 (a0.toNatClampNeg)), .int (((V3 110 ((V 108 (a0.toNatClampNeg)).toNatClampNeg)) + (V3 98 ((a0 / (V3 96 10)).toNatClampNeg))) - (V3 99 ((V 108 (a0.toNatClampNeg)).toNatClampNeg)))]) (st' := [.int (0 : Int32)]) (V' := V3) rfl ?_
        obtain ⟨rfl, rfl⟩ := x_p2 h
        exact q_ret rfl rfl
      · rw [if_neg hc24] at h
        refine q_icmp rfl (fun c => absurd (of_decide_eq_true c) hc24) (fun _ => ?_)
        refine q_go 2 (pc' := 66) (ls' := [.ref 96, .int a0, .int a1, .int a2, .int (V 108 (a0.toNatClampNeg)), .int (((V3 110 ((V 108 (a0.toNatClampNeg)).toNatClampNeg)) + (V3 98 ((a0 / (V3 96 10)).toNatClampNeg))) - (V3 99 ((V 108 (a0.toNatClampNeg)).toNatClampNeg)))]) (st' := [.int (1 : Int32)]) (V' := V3) rfl ?_
        obtain ⟨rfl, rfl⟩ := x_p2 h
        exact q_ret rfl rfl
def f_X7_weighs_L7 (l1 : Int32) : Nat → (Int32 → Int32 → Int32 → xV → Option (xV)) → Int32 → Int32 → Int32 → xV → Option (xV)
  | 0, _, _, _, _, _ => none
  | n + 1, k, l2, l3, l4, V => if (V 96 8) ≤ l4 then (k l2 l3 l4 V) else (if x_in l4 6 = true then (if (V 110 (l4.toNatClampNeg)) ≤ l2 then (if ((V 110 (l4.toNatClampNeg)) - (V 99 (l4.toNatClampNeg))) ≤ l3 then (f_X7_weighs_L7 l1 n k l2 l3 (l4 + (1 : Int32)) V) else (f_X7_weighs_L7 l1 n k l2 ((V 110 (l4.toNatClampNeg)) - (V 99 (l4.toNatClampNeg))) (l4 + (1 : Int32)) V)) else (if ((V 110 (l4.toNatClampNeg)) - (V 99 (l4.toNatClampNeg))) ≤ l3 then (f_X7_weighs_L7 l1 n k (V 110 (l4.toNatClampNeg)) l3 (l4 + (1 : Int32)) V) else (f_X7_weighs_L7 l1 n k (V 110 (l4.toNatClampNeg)) ((V 110 (l4.toNatClampNeg)) - (V 99 (l4.toNatClampNeg))) (l4 + (1 : Int32)) V))) else none)
theorem f_X7_weighs_L7_ok (l1 : Int32) {k : Int32 → Int32 → Int32 → xV → Option (xV)}  {W : xV} (hk : ∀ (l2 : Int32) (l3 : Int32) (l4 : Int32) (V : xV) (g5 : Value), k l2 l3 l4 V = some W → x_Ex (0) kX7_weighs 84 [.ref 96, .int l1, .int l2, .int l3, .int l4, g5] [] V none W) : ∀ (n : Nat) (l2 : Int32) (l3 : Int32) (l4 : Int32) (V : xV) (g5 : Value), f_X7_weighs_L7 l1 n k l2 l3 l4 V = some W → x_Ex (0) kX7_weighs 7 [.ref 96, .int l1, .int l2, .int l3, .int l4, g5] [] V none W := by
  intro n
  induction n with
  | zero => intro l2 l3 l4 V g5 h; cases h
  | succ n ih =>
    intro l2 l3 l4 V g5 h
    unfold f_X7_weighs_L7 at h
    refine q_go 3 (pc' := 13) (ls' := [.ref 96, .int l1, .int l2, .int l3, .int l4, g5]) (st' := [.int (V 96 8), .int l4]) (V' := V) rfl ?_
    by_cases hc1 : (V 96 8) ≤ l4
    · rw [if_pos hc1] at h
      refine q_icmp rfl (fun _ => ?_) (fun c => absurd hc1 (of_decide_eq_false c))
      exact hk l2 l3 l4 V g5 h
    · rw [if_neg hc1] at h
      refine q_icmp rfl (fun c => absurd (of_decide_eq_true c) hc1) (fun _ => ?_)
      refine q_go 3 (pc' := 22) (ls' := [.ref 96, .int l1, .int l2, .int l3, .int l4, g5]) (st' := [.int l4, .ref 110]) (V' := V) rfl ?_
      refine x_em (p := x_in l4 6 = true) (fun hz => by rw [if_neg hz] at h; cases h) (fun hc2 => ?_)
      rw [if_pos hc2] at h
      refine q_ald (Or.inl ⟨rfl, rfl⟩) rfl hc2 ?_
      refine q_go 1 (pc' := 24) (ls' := [.ref 96, .int l1, .int l2, .int l3, .int l4, g5]) (st' := [.int l2, .int (V 110 (l4.toNatClampNeg))]) (V' := V) rfl ?_
      by_cases hc3 : (V 110 (l4.toNatClampNeg)) ≤ l2
      · rw [if_pos hc3] at h
        refine q_icmp rfl (fun _ => ?_) (fun c => absurd hc3 (of_decide_eq_false c))
        refine q_go 5 (pc' := 45) (ls' := [.ref 96, .int l1, .int l2, .int l3, .int l4, g5]) (st' := [.int l4, .ref 110]) (V' := V) rfl ?_
        refine q_ald (Or.inl ⟨rfl, rfl⟩) rfl hc2 ?_
        refine q_go 3 (pc' := 52) (ls' := [.ref 96, .int l1, .int l2, .int l3, .int l4, g5]) (st' := [.int l4, .ref 99, .int (V 110 (l4.toNatClampNeg))]) (V' := V) rfl ?_
        refine q_ald (Or.inl ⟨rfl, rfl⟩) rfl hc2 ?_
        refine q_go 2 (pc' := 55) (ls' := [.ref 96, .int l1, .int l2, .int l3, .int l4, g5]) (st' := [.int l3, .int ((V 110 (l4.toNatClampNeg)) - (V 99 (l4.toNatClampNeg)))]) (V' := V) rfl ?_
        by_cases hc4 : ((V 110 (l4.toNatClampNeg)) - (V 99 (l4.toNatClampNeg))) ≤ l3
        · rw [if_pos hc4] at h
          refine q_icmp rfl (fun _ => ?_) (fun c => absurd hc4 (of_decide_eq_false c))
          refine q_go 4 (pc' := 7) (ls' := [.ref 96, .int l1, .int l2, .int l3, .int (l4 + (1 : Int32)), g5]) (st' := []) (V' := V) rfl ?_
          exact ih l2 l3 (l4 + (1 : Int32)) V g5 h
        · rw [if_neg hc4] at h
          refine q_icmp rfl (fun c => absurd (of_decide_eq_true c) hc4) (fun _ => ?_)
          refine q_go 3 (pc' := 64) (ls' := [.ref 96, .int l1, .int l2, .int l3, .int l4, g5]) (st' := [.int l4, .ref 110]) (V' := V) rfl ?_
          refine q_ald (Or.inl ⟨rfl, rfl⟩) rfl hc2 ?_
          refine q_go 3 (pc' := 71) (ls' := [.ref 96, .int l1, .int l2, .int l3, .int l4, g5]) (st' := [.int l4, .ref 99, .int (V 110 (l4.toNatClampNeg))]) (V' := V) rfl ?_
          refine q_ald (Or.inl ⟨rfl, rfl⟩) rfl hc2 ?_
          refine q_go 5 (pc' := 7) (ls' := [.ref 96, .int l1, .int l2, .int ((V 110 (l4.toNatClampNeg)) - (V 99 (l4.toNatClampNeg))), .int (l4 + (1 : Int32)), g5]) (st' := []) (V' := V) rfl ?_
          exact ih l2 ((V 110 (l4.toNatClampNeg)) - (V 99 (l4.toNatClampNeg))) (l4 + (1 : Int32)) V g5 h
      · rw [if_neg hc3] at h
        refine q_icmp rfl (fun c => absurd (of_decide_eq_true c) hc3) (fun _ => ?_)
        refine q_go 3 (pc' := 33) (ls' := [.ref 96, .int l1, .int l2, .int l3, .int l4, g5]) (st' := [.int l4, .ref 110]) (V' := V) rfl ?_
        refine q_ald (Or.inl ⟨rfl, rfl⟩) rfl hc2 ?_
        refine q_go 5 (pc' := 45) (ls' := [.ref 96, .int l1, .int (V 110 (l4.toNatClampNeg)), .int l3, .int l4, g5]) (st' := [.int l4, .ref 110]) (V' := V) rfl ?_
        refine q_ald (Or.inl ⟨rfl, rfl⟩) rfl hc2 ?_
        refine q_go 3 (pc' := 52) (ls' := [.ref 96, .int l1, .int (V 110 (l4.toNatClampNeg)), .int l3, .int l4, g5]) (st' := [.int l4, .ref 99, .int (V 110 (l4.toNatClampNeg))]) (V' := V) rfl ?_
        refine q_ald (Or.inl ⟨rfl, rfl⟩) rfl hc2 ?_
        refine q_go 2 (pc' := 55) (ls' := [.ref 96, .int l1, .int (V 110 (l4.toNatClampNeg)), .int l3, .int l4, g5]) (st' := [.int l3, .int ((V 110 (l4.toNatClampNeg)) - (V 99 (l4.toNatClampNeg)))]) (V' := V) rfl ?_
        by_cases hc5 : ((V 110 (l4.toNatClampNeg)) - (V 99 (l4.toNatClampNeg))) ≤ l3
        · rw [if_pos hc5] at h
          refine q_icmp rfl (fun _ => ?_) (fun c => absurd hc5 (of_decide_eq_false c))
          refine q_go 4 (pc' := 7) (ls' := [.ref 96, .int l1, .int (V 110 (l4.toNatClampNeg)), .int l3, .int (l4 + (1 : Int32)), g5]) (st' := []) (V' := V) rfl ?_
          exact ih (V 110 (l4.toNatClampNeg)) l3 (l4 + (1 : Int32)) V g5 h
        · rw [if_neg hc5] at h
          refine q_icmp rfl (fun c => absurd (of_decide_eq_true c) hc5) (fun _ => ?_)
          refine q_go 3 (pc' := 64) (ls' := [.ref 96, .int l1, .int (V 110 (l4.toNatClampNeg)), .int l3, .int l4, g5]) (st' := [.int l4, .ref 110]) (V' := V) rfl ?_
          refine q_ald (Or.inl ⟨rfl, rfl⟩) rfl hc2 ?_
          refine q_go 3 (pc' := 71) (ls' := [.ref 96, .int l1, .int (V 110 (l4.toNatClampNeg)), .int l3, .int l4, g5]) (st' := [.int l4, .ref 99, .int (V 110 (l4.toNatClampNeg))]) (V' := V) rfl ?_
          refine q_ald (Or.inl ⟨rfl, rfl⟩) rfl hc2 ?_
          refine q_go 5 (pc' := 7) (ls' := [.ref 96, .int l1, .int (V 110 (l4.toNatClampNeg)), .int ((V 110 (l4.toNatClampNeg)) - (V 99 (l4.toNatClampNeg))), .int (l4 + (1 : Int32)), g5]) (st' := []) (V' := V) rfl ?_
          exact ih (V 110 (l4.toNatClampNeg)) ((V 110 (l4.toNatClampNeg)) - (V 99 (l4.toNatClampNeg))) (l4 + (1 : Int32)) V g5 h
def f_X7_weighs_L156 (l1 : Int32) (l2 : Int32) (l3 : Int32) (l4 : Int32) : Nat → (Int32 → xV → Option (xV)) → Int32 → xV → Option (xV)
  | 0, _, _, _ => none
  | n + 1, k, l5, V => if (8 : Int32) ≤ l5 then (k l5 V) else (if x_in l5 8 = true then (f_X7_weighs_L156 l1 l2 l3 l4 n k (l5 + (1 : Int32)) (x_up V 111 (l5.toNatClampNeg) (V 108 (l5.toNatClampNeg)))) else none)
theorem f_X7_weighs_L156_ok (l1 : Int32) (l2 : Int32) (l3 : Int32) (l4 : Int32) {k : Int32 → xV → Option (xV)}  {W : xV} (hk : ∀ (l5 : Int32) (V : xV), k l5 V = some W → x_Ex (0) kX7_weighs 183 [.ref 96, .int l1, .int l2, .int l3, .int l4, .int l5] [] V none W) : ∀ (n : Nat) (l5 : Int32) (V : xV), f_X7_weighs_L156 l1 l2 l3 l4 n k l5 V = some W → x_Ex (0) kX7_weighs 156 [.ref 96, .int l1, .int l2, .int l3, .int l4, .int l5] [] V none W := by
  intro n
  induction n with
  | zero => intro l5 V  h; cases h
  | succ n ih =>
    intro l5 V  h
    unfold f_X7_weighs_L156 at h
    refine q_go 2 (pc' := 160) (ls' := [.ref 96, .int l1, .int l2, .int l3, .int l4, .int l5]) (st' := [.int (8 : Int32), .int l5]) (V' := V) rfl ?_
    by_cases hc14 : (8 : Int32) ≤ l5
    · rw [if_pos hc14] at h
      refine q_icmp rfl (fun _ => ?_) (fun c => absurd hc14 (of_decide_eq_false c))
      exact hk l5 V  h
    · rw [if_neg hc14] at h
      refine q_icmp rfl (fun c => absurd (of_decide_eq_true c) hc14) (fun _ => ?_)
      refine q_go 6 (pc' := 175) (ls' := [.ref 96, .int l1, .int l2, .int l3, .int l4, .int l5]) (st' := [.int l5, .ref 108, .int l5, .ref 111]) (V' := V) rfl ?_
      refine x_em (p := x_in l5 8 = true) (fun hz => by rw [if_neg hz] at h; cases h) (fun hc15 => ?_)
      rw [if_pos hc15] at h
      refine q_ald (Or.inl ⟨rfl, rfl⟩) rfl hc15 ?_
      refine q_ast rfl rfl hc15 ?_
      refine q_go 2 (pc' := 156) (ls' := [.ref 96, .int l1, .int l2, .int l3, .int l4, .int (l5 + (1 : Int32))]) (st' := []) (V' := (x_up V 111 (l5.toNatClampNeg) (V 108 (l5.toNatClampNeg)))) rfl ?_
      exact ih (l5 + (1 : Int32)) (x_up V 111 (l5.toNatClampNeg) (V 108 (l5.toNatClampNeg)))  h
def f_X7_weighs (a0 : Int32) (V : xV) : Option (xV) := f_X7_weighs_L7 a0 300 (fun l2_6 l3_7 l4_8 V9 => if a0 = 0 then (if x_in ((V9 96 9) * (V9 96 10)) 9 = true then (if (V9 109 (((V9 96 9) * (V9 96 10)).toNatClampNeg)) < (V9 96 32) then (f_X7_weighs_L156 a0 l2_6 l3_7 (V9 109 (((V9 96 9) * (V9 96 10)).toNatClampNeg)) 300 (fun l5_16 V17 => some V17) (0 : Int32) (x_up (x_up V9 96 32 (V9 109 (((V9 96 9) * (V9 96 10)).toNatClampNeg))) 96 33 l2_6)) else (if (V9 96 33) ≤ l2_6 then (some V9) else (f_X7_weighs_L156 a0 l2_6 l3_7 (V9 109 (((V9 96 9) * (V9 96 10)).toNatClampNeg)) 300 (fun l5_19 V20 => some V20) (0 : Int32) (x_up (x_up V9 96 32 (V9 109 (((V9 96 9) * (V9 96 10)).toNatClampNeg))) 96 33 l2_6)))) else none) else (if (V9 96 32) ≤ l3_7 then (some (x_up V9 96 32 (V9 96 32))) else (some (x_up V9 96 32 l3_7)))) (0 : Int32) (0 : Int32) (0 : Int32) V
theorem f_X7_weighs_ok {a0 : Int32} {V W : xV}  (h : f_X7_weighs a0 V = some W) : x_Rn (0) 128 [.ref 96, .int a0] V none W := by
  refine ⟨6, kX7_weighs, rfl, ?_⟩
  show x_Ex (0) kX7_weighs 0 [.ref 96, .int a0, .long 0, .long 0, .long 0, .long 0] [] V none W
  unfold f_X7_weighs at h
  refine q_go 6 (pc' := 7) (ls' := [.ref 96, .int a0, .int (0 : Int32), .int (0 : Int32), .int (0 : Int32), .long 0]) (st' := []) (V' := V) rfl ?_
  refine f_X7_weighs_L7_ok a0 (fun l2_6 l3_7 l4_8 V9 g5_10 h => ?_) 300 (0 : Int32) (0 : Int32) (0 : Int32) V (.long 0) h
  refine q_go 1 (pc' := 85) (ls' := [.ref 96, .int a0, .int l2_6, .int l3_7, .int l4_8, g5_10]) (st' := [.int a0]) (V' := V9) rfl ?_
  by_cases hc11 : a0 = 0
  · rw [if_pos hc11] at h
    refine q_if rfl (fun _ => ?_) (fun c => absurd hc11 (of_decide_eq_false c))
    refine q_go 7 (pc' := 122) (ls' := [.ref 96, .int a0, .int l2_6, .int l3_7, .int l4_8, g5_10]) (st' := [.int ((V9 96 9) * (V9 96 10)), .ref 109]) (V' := V9) rfl ?_
    refine x_em (p := x_in ((V9 96 9) * (V9 96 10)) 9 = true) (fun hz => by rw [if_neg hz] at h; cases h) (fun hc12 => ?_)
    rw [if_pos hc12] at h
    refine q_ald (Or.inl ⟨rfl, rfl⟩) rfl hc12 ?_
    refine q_go 4 (pc' := 131) (ls' := [.ref 96, .int a0, .int l2_6, .int l3_7, .int (V9 109 (((V9 96 9) * (V9 96 10)).toNatClampNeg)), g5_10]) (st' := [.int (V9 96 32), .int (V9 109 (((V9 96 9) * (V9 96 10)).toNatClampNeg))]) (V' := V9) rfl ?_
    by_cases hc13 : (V9 109 (((V9 96 9) * (V9 96 10)).toNatClampNeg)) < (V9 96 32)
    · rw [if_pos hc13] at h
      refine q_icmp rfl (fun _ => ?_) (fun c => absurd hc13 (of_decide_eq_false c))
      refine q_go 8 (pc' := 156) (ls' := [.ref 96, .int a0, .int l2_6, .int l3_7, .int (V9 109 (((V9 96 9) * (V9 96 10)).toNatClampNeg)), .int (0 : Int32)]) (st' := []) (V' := (x_up (x_up V9 96 32 (V9 109 (((V9 96 9) * (V9 96 10)).toNatClampNeg))) 96 33 l2_6)) rfl ?_
      refine f_X7_weighs_L156_ok a0 l2_6 l3_7 (V9 109 (((V9 96 9) * (V9 96 10)).toNatClampNeg)) (fun l5_16 V17 h => ?_) 300 (0 : Int32) (x_up (x_up V9 96 32 (V9 109 (((V9 96 9) * (V9 96 10)).toNatClampNeg))) 96 33 l2_6)  h
      obtain rfl := Option.some.inj h
      exact q_ret rfl rfl
    · rw [if_neg hc13] at h
      refine q_icmp rfl (fun c => absurd (of_decide_eq_true c) hc13) (fun _ => ?_)
      refine q_go 3 (pc' := 139) (ls' := [.ref 96, .int a0, .int l2_6, .int l3_7, .int (V9 109 (((V9 96 9) * (V9 96 10)).toNatClampNeg)), g5_10]) (st' := [.int (V9 96 33), .int l2_6]) (V' := V9) rfl ?_
      by_cases hc18 : (V9 96 33) ≤ l2_6
      · rw [if_pos hc18] at h
        refine q_icmp rfl (fun _ => ?_) (fun c => absurd hc18 (of_decide_eq_false c))
        obtain rfl := Option.some.inj h
        exact q_ret rfl rfl
      · rw [if_neg hc18] at h
        refine q_icmp rfl (fun c => absurd (of_decide_eq_true c) hc18) (fun _ => ?_)
        refine q_go 8 (pc' := 156) (ls' := [.ref 96, .int a0, .int l2_6, .int l3_7, .int (V9 109 (((V9 96 9) * (V9 96 10)).toNatClampNeg)), .int (0 : Int32)]) (st' := []) (V' := (x_up (x_up V9 96 32 (V9 109 (((V9 96 9) * (V9 96 10)).toNatClampNeg))) 96 33 l2_6)) rfl ?_
        refine f_X7_weighs_L156_ok a0 l2_6 l3_7 (V9 109 (((V9 96 9) * (V9 96 10)).toNatClampNeg)) (fun l5_19 V20 h => ?_) 300 (0 : Int32) (x_up (x_up V9 96 32 (V9 109 (((V9 96 9) * (V9 96 10)).toNatClampNeg))) 96 33 l2_6)  h
        obtain rfl := Option.some.inj h
        exact q_ret rfl rfl
  · rw [if_neg hc11] at h
    refine q_if rfl (fun c => absurd (of_decide_eq_true c) hc11) (fun _ => ?_)
    refine q_go 4 (pc' := 94) (ls' := [.ref 96, .int a0, .int l2_6, .int l3_7, .int l4_8, g5_10]) (st' := [.int (V9 96 32), .int l3_7, .ref 96]) (V' := V9) rfl ?_
    by_cases hc21 : (V9 96 32) ≤ l3_7
    · rw [if_pos hc21] at h
      refine q_icmp rfl (fun _ => ?_) (fun c => absurd hc21 (of_decide_eq_false c))
      refine q_go 3 (pc' := 108) (ls' := [.ref 96, .int a0, .int l2_6, .int l3_7, .int l4_8, g5_10]) (st' := []) (V' := (x_up V9 96 32 (V9 96 32))) rfl ?_
      obtain rfl := Option.some.inj h
      exact q_ret rfl rfl
    · rw [if_neg hc21] at h
      refine q_icmp rfl (fun c => absurd (of_decide_eq_true c) hc21) (fun _ => ?_)
      refine q_go 3 (pc' := 108) (ls' := [.ref 96, .int a0, .int l2_6, .int l3_7, .int l4_8, g5_10]) (st' := []) (V' := (x_up V9 96 32 l3_7)) rfl ?_
      obtain rfl := Option.some.inj h
      exact q_ret rfl rfl
def f_X7_tries_L24 (F : Nat) (l1 : Int32) (l2 : Int32) : Nat → (Int32 → xV → Option (xV)) → Int32 → xV → Option (xV)
  | 0, _, _, _ => none
  | n + 1, k, l3, V => if (6 : Int32) ≤ l3 then (k l3 V) else (if x_in l3 6 = true then (f_X7_tries_L24 F l1 l2 n k (l3 + (1 : Int32)) (x_up V 110 (l3.toNatClampNeg) (0 : Int32))) else none)
theorem f_X7_tries_L24_ok (F : Nat) (l1 : Int32) (l2 : Int32) {k : Int32 → xV → Option (xV)}  {W : xV} (hk : ∀ (l3 : Int32) (V : xV), k l3 V = some W → x_Ex (4) kX7_tries 43 [.ref 96, .int l1, .int l2, .int l3] [] V none W) : ∀ (n : Nat) (l3 : Int32) (V : xV), f_X7_tries_L24 F l1 l2 n k l3 V = some W → x_Ex (4) kX7_tries 24 [.ref 96, .int l1, .int l2, .int l3] [] V none W := by
  intro n
  induction n with
  | zero => intro l3 V  h; cases h
  | succ n ih =>
    intro l3 V  h
    unfold f_X7_tries_L24 at h
    refine q_go 2 (pc' := 27) (ls' := [.ref 96, .int l1, .int l2, .int l3]) (st' := [.int (6 : Int32), .int l3]) (V' := V) rfl ?_
    by_cases hc2 : (6 : Int32) ≤ l3
    · rw [if_pos hc2] at h
      refine q_icmp rfl (fun _ => ?_) (fun c => absurd hc2 (of_decide_eq_false c))
      exact hk l3 V  h
    · rw [if_neg hc2] at h
      refine q_icmp rfl (fun c => absurd (of_decide_eq_true c) hc2) (fun _ => ?_)
      refine q_go 4 (pc' := 36) (ls' := [.ref 96, .int l1, .int l2, .int l3]) (st' := [.int (0 : Int32), .int l3, .ref 110]) (V' := V) rfl ?_
      refine x_em (p := x_in l3 6 = true) (fun hz => by rw [if_neg hz] at h; cases h) (fun hc3 => ?_)
      rw [if_pos hc3] at h
      refine q_ast rfl rfl hc3 ?_
      refine q_go 2 (pc' := 24) (ls' := [.ref 96, .int l1, .int l2, .int (l3 + (1 : Int32))]) (st' := []) (V' := (x_up V 110 (l3.toNatClampNeg) (0 : Int32))) rfl ?_
      exact ih (l3 + (1 : Int32)) (x_up V 110 (l3.toNatClampNeg) (0 : Int32))  h
def f_X7_tries_L107 (F : Nat) (l1 : Int32) (l2 : Int32) (l3 : Int32) : Nat → (xV → Option (xV)) → xV → Option (xV)
  | 0, _, _ => none
  | n + 1, k, V => if x_in l3 8 = true then (if (V 96 8) ≤ (V 108 (l3.toNatClampNeg)) then (k  V) else (x_b2 (f_X7_fits l3 l1 l2 V) (fun x13 V12 => if x13 = 0 then (f_X7_tries_L107 F l1 l2 l3 n k  (x_up V12 108 (l3.toNatClampNeg) ((V12 108 (l3.toNatClampNeg)) + 1))) else (k  V12)))) else none
theorem f_X7_tries_L107_ok (F : Nat) (l1 : Int32) (l2 : Int32) (l3 : Int32) {k : xV → Option (xV)}  {W : xV} (hk : ∀ (V : xV), k  V = some W → x_Ex (4) kX7_tries 143 [.ref 96, .int l1, .int l2, .int l3] [] V none W) : ∀ (n : Nat) (V : xV), f_X7_tries_L107 F l1 l2 l3 n k  V = some W → x_Ex (4) kX7_tries 107 [.ref 96, .int l1, .int l2, .int l3] [] V none W := by
  intro n
  induction n with
  | zero => intro  V  h; cases h
  | succ n ih =>
    intro  V  h
    unfold f_X7_tries_L107 at h
    refine q_go 3 (pc' := 112) (ls' := [.ref 96, .int l1, .int l2, .int l3]) (st' := [.int l3, .ref 108]) (V' := V) rfl ?_
    refine x_em (p := x_in l3 8 = true) (fun hz => by rw [if_neg hz] at h; cases h) (fun hc9 => ?_)
    rw [if_pos hc9] at h
    refine q_ald (Or.inl ⟨rfl, rfl⟩) rfl hc9 ?_
    refine q_go 2 (pc' := 117) (ls' := [.ref 96, .int l1, .int l2, .int l3]) (st' := [.int (V 96 8), .int (V 108 (l3.toNatClampNeg))]) (V' := V) rfl ?_
    by_cases hc10 : (V 96 8) ≤ (V 108 (l3.toNatClampNeg))
    · rw [if_pos hc10] at h
      refine q_icmp rfl (fun _ => ?_) (fun c => absurd hc10 (of_decide_eq_false c))
      exact hk  V  h
    · rw [if_neg hc10] at h
      refine q_icmp rfl (fun c => absurd (of_decide_eq_true c) hc10) (fun _ => ?_)
      refine q_go 4 (pc' := 124) (ls' := [.ref 96, .int l1, .int l2, .int l3]) (st' := [.int l2, .int l1, .int l3, .ref 96]) (V' := V) rfl ?_
      obtain ⟨x13, V12, hc11, h⟩ := x_b2_eq h
      refine q_call (d := (3)) (as := [.ref 96, .int l3, .int l1, .int l2]) (pc' := 127) (ls' := [.ref 96, .int l1, .int l2, .int l3]) (st' := []) (r1 := some x13) rfl rfl ((f_X7_fits_ok hc11).up (by decide)) ?_
      by_cases hc14 : x13 = 0
      · rw [if_pos hc14] at h
        refine q_if rfl (fun c => absurd hc14 (of_decide_eq_true c)) (fun _ => ?_)
        refine q_go 4 (pc' := 136) (ls' := [.ref 96, .int l1, .int l2, .int l3]) (st' := [.int l3, .ref 108, .int l3, .ref 108]) (V' := V12) rfl ?_
        refine q_ald (Or.inl ⟨rfl, rfl⟩) rfl hc9 ?_
        refine q_go 2 (pc' := 139) (ls' := [.ref 96, .int l1, .int l2, .int l3]) (st' := [.int ((V12 108 (l3.toNatClampNeg)) + 1), .int l3, .ref 108]) (V' := V12) rfl ?_
        refine q_ast rfl rfl hc9 ?_
        refine q_go 1 (pc' := 107) (ls' := [.ref 96, .int l1, .int l2, .int l3]) (st' := []) (V' := (x_up V12 108 (l3.toNatClampNeg) ((V12 108 (l3.toNatClampNeg)) + 1))) rfl ?_
        exact ih  (x_up V12 108 (l3.toNatClampNeg) ((V12 108 (l3.toNatClampNeg)) + 1))  h
      · rw [if_neg hc14] at h
        refine q_if rfl (fun _ => ?_) (fun c => absurd hc14 (of_decide_eq_false c))
        exact hk  V12  h
def f_X7_tries_L59 (F : Nat) (l1 : Int32) (l2 : Int32) : Nat → (Int32 → xV → Option (xV)) → Int32 → xV → Option (xV)
  | 0, _, _, _ => none
  | n + 1, k, l3, V => if l3 < 0 then (k l3 V) else (if x_in l3 8 = true then (if (V 108 (l3.toNatClampNeg)) < 0 then (f_X7_tries_L107 F l1 l2 l3 300 (fun V15 => if (V15 108 (l3.toNatClampNeg)) = (V15 96 8) then (f_X7_tries_L59 F l1 l2 n k (l3 + (-1 : Int32)) V15) else (if x_in (V15 108 (l3.toNatClampNeg)) 6 = true then (if (V15 96 10) = 0 then none else (if x_in (l3 / (V15 96 10)) 4 = true then (if x_in l3 9 = true then (x_b2 (f_X7_changeAt l3 (x_up V15 110 ((V15 108 (l3.toNatClampNeg)).toNatClampNeg) ((V15 110 ((V15 108 (l3.toNatClampNeg)).toNatClampNeg)) + (V15 98 ((l3 / (V15 96 10)).toNatClampNeg))))) (fun x22 V21 => if x_in (l3 + 1) 9 = true then (if l3 = (((V21 96 9) * (V21 96 10)) - 1) then (x_b1 (f_X7_weighs l2 (x_up V21 109 ((l3 + 1).toNatClampNeg) ((V15 109 (l3.toNatClampNeg)) + x22))) (fun V27 => f_X7_tries_L59 F l1 l2 n k l3 V27)) else (if x_in (l3 + (1 : Int32)) 8 = true then (f_X7_tries_L59 F l1 l2 n k (l3 + (1 : Int32)) (x_up (x_up V21 109 ((l3 + 1).toNatClampNeg) ((V15 109 (l3.toNatClampNeg)) + x22)) 108 ((l3 + (1 : Int32)).toNatClampNeg) (-1 : Int32))) else none)) else none)) else none) else none)) else none))  (x_up V 108 (l3.toNatClampNeg) ((V 108 (l3.toNatClampNeg)) + 1))) else (if x_in (V 108 (l3.toNatClampNeg)) 6 = true then (if (V 96 10) = 0 then none else (if x_in (l3 / (V 96 10)) 4 = true then (f_X7_tries_L107 F l1 l2 l3 300 (fun V31 => if (V31 108 (l3.toNatClampNeg)) = (V31 96 8) then (f_X7_tries_L59 F l1 l2 n k (l3 + (-1 : Int32)) V31) else (if x_in (V31 108 (l3.toNatClampNeg)) 6 = true then (if (V31 96 10) = 0 then none else (if x_in (l3 / (V31 96 10)) 4 = true then (if x_in l3 9 = true then (x_b2 (f_X7_changeAt l3 (x_up V31 110 ((V31 108 (l3.toNatClampNeg)).toNatClampNeg) ((V31 110 ((V31 108 (l3.toNatClampNeg)).toNatClampNeg)) + (V31 98 ((l3 / (V31 96 10)).toNatClampNeg))))) (fun x38 V37 => if x_in (l3 + 1) 9 = true then (if l3 = (((V37 96 9) * (V37 96 10)) - 1) then (x_b1 (f_X7_weighs l2 (x_up V37 109 ((l3 + 1).toNatClampNeg) ((V31 109 (l3.toNatClampNeg)) + x38))) (fun V43 => f_X7_tries_L59 F l1 l2 n k l3 V43)) else (if x_in (l3 + (1 : Int32)) 8 = true then (f_X7_tries_L59 F l1 l2 n k (l3 + (1 : Int32)) (x_up (x_up V37 109 ((l3 + 1).toNatClampNeg) ((V31 109 (l3.toNatClampNeg)) + x38)) 108 ((l3 + (1 : Int32)).toNatClampNeg) (-1 : Int32))) else none)) else none)) else none) else none)) else none))  (x_up (x_up V 110 ((V 108 (l3.toNatClampNeg)).toNatClampNeg) ((V 110 ((V 108 (l3.toNatClampNeg)).toNatClampNeg)) - (V 98 ((l3 / (V 96 10)).toNatClampNeg)))) 108 (l3.toNatClampNeg) ((V 108 (l3.toNatClampNeg)) + 1))) else none)) else none)) else none)
theorem f_X7_tries_L59_ok (F : Nat) (l1 : Int32) (l2 : Int32) {k : Int32 → xV → Option (xV)}  {W : xV} (hk : ∀ (l3 : Int32) (V : xV), k l3 V = some W → x_Ex (4) kX7_tries 243 [.ref 96, .int l1, .int l2, .int l3] [] V none W) : ∀ (n : Nat) (l3 : Int32) (V : xV), f_X7_tries_L59 F l1 l2 n k l3 V = some W → x_Ex (4) kX7_tries 59 [.ref 96, .int l1, .int l2, .int l3] [] V none W := by
  intro n
  induction n with
  | zero => intro l3 V  h; cases h
  | succ n ih =>
    intro l3 V  h
    unfold f_X7_tries_L59 at h
    refine q_go 1 (pc' := 60) (ls' := [.ref 96, .int l1, .int l2, .int l3]) (st' := [.int l3]) (V' := V) rfl ?_
    by_cases hc6 : l3 < 0
    · rw [if_pos hc6] at h
      refine q_if rfl (fun _ => ?_) (fun c => absurd hc6 (of_decide_eq_false c))
      exact hk l3 V  h
    · rw [if_neg hc6] at h
      refine q_if rfl (fun c => absurd (of_decide_eq_true c) hc6) (fun _ => ?_)
      refine q_go 3 (pc' := 68) (ls' := [.ref 96, .int l1, .int l2, .int l3]) (st' := [.int l3, .ref 108]) (V' := V) rfl ?_
      refine x_em (p := x_in l3 8 = true) (fun hz => by rw [if_neg hz] at h; cases h) (fun hc7 => ?_)
      rw [if_pos hc7] at h
      refine q_ald (Or.inl ⟨rfl, rfl⟩) rfl hc7 ?_
      by_cases hc8 : (V 108 (l3.toNatClampNeg)) < 0
      · rw [if_pos hc8] at h
        refine q_if rfl (fun _ => ?_) (fun c => absurd hc8 (of_decide_eq_false c))
        refine q_go 4 (pc' := 103) (ls' := [.ref 96, .int l1, .int l2, .int l3]) (st' := [.int l3, .ref 108, .int l3, .ref 108]) (V' := V) rfl ?_
        refine q_ald (Or.inl ⟨rfl, rfl⟩) rfl hc7 ?_
        refine q_go 2 (pc' := 106) (ls' := [.ref 96, .int l1, .int l2, .int l3]) (st' := [.int ((V 108 (l3.toNatClampNeg)) + 1), .int l3, .ref 108]) (V' := V) rfl ?_
        refine q_ast rfl rfl hc7 ?_
        refine f_X7_tries_L107_ok F l1 l2 l3 (fun V15 h => ?_) 300  (x_up V 108 (l3.toNatClampNeg) ((V 108 (l3.toNatClampNeg)) + 1))  h
        refine q_go 3 (pc' := 148) (ls' := [.ref 96, .int l1, .int l2, .int l3]) (st' := [.int l3, .ref 108]) (V' := V15) rfl ?_
        refine q_ald (Or.inl ⟨rfl, rfl⟩) rfl hc7 ?_
        refine q_go 2 (pc' := 153) (ls' := [.ref 96, .int l1, .int l2, .int l3]) (st' := [.int (V15 96 8), .int (V15 108 (l3.toNatClampNeg))]) (V' := V15) rfl ?_
        by_cases hc16 : (V15 108 (l3.toNatClampNeg)) = (V15 96 8)
        · rw [if_pos hc16] at h
          refine q_icmp rfl (fun c => absurd hc16 (of_decide_eq_true c)) (fun _ => ?_)
          refine q_go 2 (pc' := 59) (ls' := [.ref 96, .int l1, .int l2, .int (l3 + (-1 : Int32))]) (st' := []) (V' := V15) rfl ?_
          exact ih (l3 + (-1 : Int32)) V15  h
        · rw [if_neg hc16] at h
          refine q_icmp rfl (fun _ => ?_) (fun c => absurd hc16 (of_decide_eq_false c))
          refine q_go 5 (pc' := 171) (ls' := [.ref 96, .int l1, .int l2, .int l3]) (st' := [.int l3, .ref 108, .ref 110]) (V' := V15) rfl ?_
          refine q_ald (Or.inl ⟨rfl, rfl⟩) rfl hc7 ?_
          refine q_go 1 (pc' := 173) (ls' := [.ref 96, .int l1, .int l2, .int l3]) (st' := [.int (V15 108 (l3.toNatClampNeg)), .ref 110, .int (V15 108 (l3.toNatClampNeg)), .ref 110]) (V' := V15) rfl ?_
          refine x_em (p := x_in (V15 108 (l3.toNatClampNeg)) 6 = true) (fun hz => by rw [if_neg hz] at h; cases h) (fun hc17 => ?_)
          rw [if_pos hc17] at h
          refine q_ald (Or.inl ⟨rfl, rfl⟩) rfl hc17 ?_
          refine q_go 5 (pc' := 183) (ls' := [.ref 96, .int l1, .int l2, .int l3]) (st' := [.int (V15 96 10), .int l3, .ref 98, .int (V15 110 ((V15 108 (l3.toNatClampNeg)).toNatClampNeg)), .int (V15 108 (l3.toNatClampNeg)), .ref 110]) (V' := V15) rfl ?_
          by_cases hc28 : (V15 96 10) = 0
          · rw [if_pos hc28] at h; cases h
          rw [if_neg hc28] at h
          refine q_div rfl hc28 (Nat.le_of_ble_eq_true rfl) ?_
          refine x_em (p := x_in (l3 / (V15 96 10)) 4 = true) (fun hz => by rw [if_neg hz] at h; cases h) (fun hc18 => ?_)
          rw [if_pos hc18] at h
          refine q_ald (Or.inl ⟨rfl, rfl⟩) rfl hc18 ?_
          refine q_go 1 (pc' := 186) (ls' := [.ref 96, .int l1, .int l2, .int l3]) (st' := [.int ((V15 110 ((V15 108 (l3.toNatClampNeg)).toNatClampNeg)) + (V15 98 ((l3 / (V15 96 10)).toNatClampNeg))), .int (V15 108 (l3.toNatClampNeg)), .ref 110]) (V' := V15) rfl ?_
          refine q_ast rfl rfl hc17 ?_
          refine q_go 8 (pc' := 199) (ls' := [.ref 96, .int l1, .int l2, .int l3]) (st' := [.int l3, .ref 109, .int (l3 + 1), .ref 109]) (V' := (x_up V15 110 ((V15 108 (l3.toNatClampNeg)).toNatClampNeg) ((V15 110 ((V15 108 (l3.toNatClampNeg)).toNatClampNeg)) + (V15 98 ((l3 / (V15 96 10)).toNatClampNeg))))) rfl ?_
          refine x_em (p := x_in l3 9 = true) (fun hz => by rw [if_neg hz] at h; cases h) (fun hc19 => ?_)
          rw [if_pos hc19] at h
          refine q_ald (Or.inl ⟨rfl, rfl⟩) rfl hc19 ?_
          refine q_go 2 (pc' := 202) (ls' := [.ref 96, .int l1, .int l2, .int l3]) (st' := [.int l3, .ref 96, .int (V15 109 (l3.toNatClampNeg)), .int (l3 + 1), .ref 109]) (V' := (x_up V15 110 ((V15 108 (l3.toNatClampNeg)).toNatClampNeg) ((V15 110 ((V15 108 (l3.toNatClampNeg)).toNatClampNeg)) + (V15 98 ((l3 / (V15 96 10)).toNatClampNeg))))) rfl ?_
          obtain ⟨x22, V21, hc20, h⟩ := x_b2_eq h
          refine q_call (d := (3)) (as := [.ref 96, .int l3]) (pc' := 205) (ls' := [.ref 96, .int l1, .int l2, .int l3]) (st' := [.int (V15 109 (l3.toNatClampNeg)), .int (l3 + 1), .ref 109]) (r1 := some x22) rfl rfl ((f_X7_changeAt_ok hc20).up (by decide)) ?_
          refine q_go 1 (pc' := 206) (ls' := [.ref 96, .int l1, .int l2, .int l3]) (st' := [.int ((V15 109 (l3.toNatClampNeg)) + x22), .int (l3 + 1), .ref 109]) (V' := V21) rfl ?_
          refine x_em (p := x_in (l3 + 1) 9 = true) (fun hz => by rw [if_neg hz] at h; cases h) (fun hc23 => ?_)
          rw [if_pos hc23] at h
          refine q_ast rfl rfl hc23 ?_
          refine q_go 8 (pc' := 219) (ls' := [.ref 96, .int l1, .int l2, .int l3]) (st' := [.int (((V21 96 9) * (V21 96 10)) - 1), .int l3]) (V' := (x_up V21 109 ((l3 + 1).toNatClampNeg) ((V15 109 (l3.toNatClampNeg)) + x22))) rfl ?_
          by_cases hc24 : l3 = (((V21 96 9) * (V21 96 10)) - 1)
          · rw [if_pos hc24] at h
            refine q_icmp rfl (fun c => absurd hc24 (of_decide_eq_true c)) (fun _ => ?_)
            refine q_go 2 (pc' := 224) (ls' := [.ref 96, .int l1, .int l2, .int l3]) (st' := [.int l2, .ref 96]) (V' := (x_up V21 109 ((l3 + 1).toNatClampNeg) ((V15 109 (l3.toNatClampNeg)) + x22))) rfl ?_
            obtain ⟨V27, hc26, h⟩ := x_b1_eq h
            refine q_call (d := (3)) (as := [.ref 96, .int l2]) (pc' := 227) (ls' := [.ref 96, .int l1, .int l2, .int l3]) (st' := []) (r1 := none) rfl rfl ((f_X7_weighs_ok hc26).up (by decide)) ?_
            refine q_go 1 (pc' := 59) (ls' := [.ref 96, .int l1, .int l2, .int l3]) (st' := []) (V' := V27) rfl ?_
            exact ih l3 V27  h
          · rw [if_neg hc24] at h
            refine q_icmp rfl (fun _ => ?_) (fun c => absurd hc24 (of_decide_eq_false c))
            refine q_go 5 (pc' := 239) (ls' := [.ref 96, .int l1, .int l2, .int (l3 + (1 : Int32))]) (st' := [.int (-1 : Int32), .int (l3 + (1 : Int32)), .ref 108]) (V' := (x_up V21 109 ((l3 + 1).toNatClampNeg) ((V15 109 (l3.toNatClampNeg)) + x22))) rfl ?_
            refine x_em (p := x_in (l3 + (1 : Int32)) 8 = true) (fun hz => by rw [if_neg hz] at h; cases h) (fun hc25 => ?_)
            rw [if_pos hc25] at h
            refine q_ast rfl rfl hc25 ?_
            refine q_go 1 (pc' := 59) (ls' := [.ref 96, .int l1, .int l2, .int (l3 + (1 : Int32))]) (st' := []) (V' := (x_up (x_up V21 109 ((l3 + 1).toNatClampNeg) ((V15 109 (l3.toNatClampNeg)) + x22)) 108 ((l3 + (1 : Int32)).toNatClampNeg) (-1 : Int32))) rfl ?_
            exact ih (l3 + (1 : Int32)) (x_up (x_up V21 109 ((l3 + 1).toNatClampNeg) ((V15 109 (l3.toNatClampNeg)) + x22)) 108 ((l3 + (1 : Int32)).toNatClampNeg) (-1 : Int32))  h
      · rw [if_neg hc8] at h
        refine q_if rfl (fun c => absurd (of_decide_eq_true c) hc8) (fun _ => ?_)
        refine q_go 5 (pc' := 81) (ls' := [.ref 96, .int l1, .int l2, .int l3]) (st' := [.int l3, .ref 108, .ref 110]) (V' := V) rfl ?_
        refine q_ald (Or.inl ⟨rfl, rfl⟩) rfl hc7 ?_
        refine q_go 1 (pc' := 83) (ls' := [.ref 96, .int l1, .int l2, .int l3]) (st' := [.int (V 108 (l3.toNatClampNeg)), .ref 110, .int (V 108 (l3.toNatClampNeg)), .ref 110]) (V' := V) rfl ?_
        refine x_em (p := x_in (V 108 (l3.toNatClampNeg)) 6 = true) (fun hz => by rw [if_neg hz] at h; cases h) (fun hc29 => ?_)
        rw [if_pos hc29] at h
        refine q_ald (Or.inl ⟨rfl, rfl⟩) rfl hc29 ?_
        refine q_go 5 (pc' := 93) (ls' := [.ref 96, .int l1, .int l2, .int l3]) (st' := [.int (V 96 10), .int l3, .ref 98, .int (V 110 ((V 108 (l3.toNatClampNeg)).toNatClampNeg)), .int (V 108 (l3.toNatClampNeg)), .ref 110]) (V' := V) rfl ?_
        by_cases hc45 : (V 96 10) = 0
        · rw [if_pos hc45] at h; cases h
        rw [if_neg hc45] at h
        refine q_div rfl hc45 (Nat.le_of_ble_eq_true rfl) ?_
        refine x_em (p := x_in (l3 / (V 96 10)) 4 = true) (fun hz => by rw [if_neg hz] at h; cases h) (fun hc30 => ?_)
        rw [if_pos hc30] at h
        refine q_ald (Or.inl ⟨rfl, rfl⟩) rfl hc30 ?_
        refine q_go 1 (pc' := 96) (ls' := [.ref 96, .int l1, .int l2, .int l3]) (st' := [.int ((V 110 ((V 108 (l3.toNatClampNeg)).toNatClampNeg)) - (V 98 ((l3 / (V 96 10)).toNatClampNeg))), .int (V 108 (l3.toNatClampNeg)), .ref 110]) (V' := V) rfl ?_
        refine q_ast rfl rfl hc29 ?_
        refine q_go 4 (pc' := 103) (ls' := [.ref 96, .int l1, .int l2, .int l3]) (st' := [.int l3, .ref 108, .int l3, .ref 108]) (V' := (x_up V 110 ((V 108 (l3.toNatClampNeg)).toNatClampNeg) ((V 110 ((V 108 (l3.toNatClampNeg)).toNatClampNeg)) - (V 98 ((l3 / (V 96 10)).toNatClampNeg))))) rfl ?_
        refine q_ald (Or.inl ⟨rfl, rfl⟩) rfl hc7 ?_
        refine q_go 2 (pc' := 106) (ls' := [.ref 96, .int l1, .int l2, .int l3]) (st' := [.int ((V 108 (l3.toNatClampNeg)) + 1), .int l3, .ref 108]) (V' := (x_up V 110 ((V 108 (l3.toNatClampNeg)).toNatClampNeg) ((V 110 ((V 108 (l3.toNatClampNeg)).toNatClampNeg)) - (V 98 ((l3 / (V 96 10)).toNatClampNeg))))) rfl ?_
        refine q_ast rfl rfl hc7 ?_
        refine f_X7_tries_L107_ok F l1 l2 l3 (fun V31 h => ?_) 300  (x_up (x_up V 110 ((V 108 (l3.toNatClampNeg)).toNatClampNeg) ((V 110 ((V 108 (l3.toNatClampNeg)).toNatClampNeg)) - (V 98 ((l3 / (V 96 10)).toNatClampNeg)))) 108 (l3.toNatClampNeg) ((V 108 (l3.toNatClampNeg)) + 1))  h
        refine q_go 3 (pc' := 148) (ls' := [.ref 96, .int l1, .int l2, .int l3]) (st' := [.int l3, .ref 108]) (V' := V31) rfl ?_
        refine q_ald (Or.inl ⟨rfl, rfl⟩) rfl hc7 ?_
        refine q_go 2 (pc' := 153) (ls' := [.ref 96, .int l1, .int l2, .int l3]) (st' := [.int (V31 96 8), .int (V31 108 (l3.toNatClampNeg))]) (V' := V31) rfl ?_
        by_cases hc32 : (V31 108 (l3.toNatClampNeg)) = (V31 96 8)
        · rw [if_pos hc32] at h
          refine q_icmp rfl (fun c => absurd hc32 (of_decide_eq_true c)) (fun _ => ?_)
          refine q_go 2 (pc' := 59) (ls' := [.ref 96, .int l1, .int l2, .int (l3 + (-1 : Int32))]) (st' := []) (V' := V31) rfl ?_
          exact ih (l3 + (-1 : Int32)) V31  h
        · rw [if_neg hc32] at h
          refine q_icmp rfl (fun _ => ?_) (fun c => absurd hc32 (of_decide_eq_false c))
          refine q_go 5 (pc' := 171) (ls' := [.ref 96, .int l1, .int l2, .int l3]) (st' := [.int l3, .ref 108, .ref 110]) (V' := V31) rfl ?_
          refine q_ald (Or.inl ⟨rfl, rfl⟩) rfl hc7 ?_
          refine q_go 1 (pc' := 173) (ls' := [.ref 96, .int l1, .int l2, .int l3]) (st' := [.int (V31 108 (l3.toNatClampNeg)), .ref 110, .int (V31 108 (l3.toNatClampNeg)), .ref 110]) (V' := V31) rfl ?_
          refine x_em (p := x_in (V31 108 (l3.toNatClampNeg)) 6 = true) (fun hz => by rw [if_neg hz] at h; cases h) (fun hc33 => ?_)
          rw [if_pos hc33] at h
          refine q_ald (Or.inl ⟨rfl, rfl⟩) rfl hc33 ?_
          refine q_go 5 (pc' := 183) (ls' := [.ref 96, .int l1, .int l2, .int l3]) (st' := [.int (V31 96 10), .int l3, .ref 98, .int (V31 110 ((V31 108 (l3.toNatClampNeg)).toNatClampNeg)), .int (V31 108 (l3.toNatClampNeg)), .ref 110]) (V' := V31) rfl ?_
          by_cases hc44 : (V31 96 10) = 0
          · rw [if_pos hc44] at h; cases h
          rw [if_neg hc44] at h
          refine q_div rfl hc44 (Nat.le_of_ble_eq_true rfl) ?_
          refine x_em (p := x_in (l3 / (V31 96 10)) 4 = true) (fun hz => by rw [if_neg hz] at h; cases h) (fun hc34 => ?_)
          rw [if_pos hc34] at h
          refine q_ald (Or.inl ⟨rfl, rfl⟩) rfl hc34 ?_
          refine q_go 1 (pc' := 186) (ls' := [.ref 96, .int l1, .int l2, .int l3]) (st' := [.int ((V31 110 ((V31 108 (l3.toNatClampNeg)).toNatClampNeg)) + (V31 98 ((l3 / (V31 96 10)).toNatClampNeg))), .int (V31 108 (l3.toNatClampNeg)), .ref 110]) (V' := V31) rfl ?_
          refine q_ast rfl rfl hc33 ?_
          refine q_go 8 (pc' := 199) (ls' := [.ref 96, .int l1, .int l2, .int l3]) (st' := [.int l3, .ref 109, .int (l3 + 1), .ref 109]) (V' := (x_up V31 110 ((V31 108 (l3.toNatClampNeg)).toNatClampNeg) ((V31 110 ((V31 108 (l3.toNatClampNeg)).toNatClampNeg)) + (V31 98 ((l3 / (V31 96 10)).toNatClampNeg))))) rfl ?_
          refine x_em (p := x_in l3 9 = true) (fun hz => by rw [if_neg hz] at h; cases h) (fun hc35 => ?_)
          rw [if_pos hc35] at h
          refine q_ald (Or.inl ⟨rfl, rfl⟩) rfl hc35 ?_
          refine q_go 2 (pc' := 202) (ls' := [.ref 96, .int l1, .int l2, .int l3]) (st' := [.int l3, .ref 96, .int (V31 109 (l3.toNatClampNeg)), .int (l3 + 1), .ref 109]) (V' := (x_up V31 110 ((V31 108 (l3.toNatClampNeg)).toNatClampNeg) ((V31 110 ((V31 108 (l3.toNatClampNeg)).toNatClampNeg)) + (V31 98 ((l3 / (V31 96 10)).toNatClampNeg))))) rfl ?_
          obtain ⟨x38, V37, hc36, h⟩ := x_b2_eq h
          refine q_call (d := (3)) (as := [.ref 96, .int l3]) (pc' := 205) (ls' := [.ref 96, .int l1, .int l2, .int l3]) (st' := [.int (V31 109 (l3.toNatClampNeg)), .int (l3 + 1), .ref 109]) (r1 := some x38) rfl rfl ((f_X7_changeAt_ok hc36).up (by decide)) ?_
          refine q_go 1 (pc' := 206) (ls' := [.ref 96, .int l1, .int l2, .int l3]) (st' := [.int ((V31 109 (l3.toNatClampNeg)) + x38), .int (l3 + 1), .ref 109]) (V' := V37) rfl ?_
          refine x_em (p := x_in (l3 + 1) 9 = true) (fun hz => by rw [if_neg hz] at h; cases h) (fun hc39 => ?_)
          rw [if_pos hc39] at h
          refine q_ast rfl rfl hc39 ?_
          refine q_go 8 (pc' := 219) (ls' := [.ref 96, .int l1, .int l2, .int l3]) (st' := [.int (((V37 96 9) * (V37 96 10)) - 1), .int l3]) (V' := (x_up V37 109 ((l3 + 1).toNatClampNeg) ((V31 109 (l3.toNatClampNeg)) + x38))) rfl ?_
          by_cases hc40 : l3 = (((V37 96 9) * (V37 96 10)) - 1)
          · rw [if_pos hc40] at h
            refine q_icmp rfl (fun c => absurd hc40 (of_decide_eq_true c)) (fun _ => ?_)
            refine q_go 2 (pc' := 224) (ls' := [.ref 96, .int l1, .int l2, .int l3]) (st' := [.int l2, .ref 96]) (V' := (x_up V37 109 ((l3 + 1).toNatClampNeg) ((V31 109 (l3.toNatClampNeg)) + x38))) rfl ?_
            obtain ⟨V43, hc42, h⟩ := x_b1_eq h
            refine q_call (d := (3)) (as := [.ref 96, .int l2]) (pc' := 227) (ls' := [.ref 96, .int l1, .int l2, .int l3]) (st' := []) (r1 := none) rfl rfl ((f_X7_weighs_ok hc42).up (by decide)) ?_
            refine q_go 1 (pc' := 59) (ls' := [.ref 96, .int l1, .int l2, .int l3]) (st' := []) (V' := V43) rfl ?_
            exact ih l3 V43  h
          · rw [if_neg hc40] at h
            refine q_icmp rfl (fun _ => ?_) (fun c => absurd hc40 (of_decide_eq_false c))
            refine q_go 5 (pc' := 239) (ls' := [.ref 96, .int l1, .int l2, .int (l3 + (1 : Int32))]) (st' := [.int (-1 : Int32), .int (l3 + (1 : Int32)), .ref 108]) (V' := (x_up V37 109 ((l3 + 1).toNatClampNeg) ((V31 109 (l3.toNatClampNeg)) + x38))) rfl ?_
            refine x_em (p := x_in (l3 + (1 : Int32)) 8 = true) (fun hz => by rw [if_neg hz] at h; cases h) (fun hc41 => ?_)
            rw [if_pos hc41] at h
            refine q_ast rfl rfl hc41 ?_
            refine q_go 1 (pc' := 59) (ls' := [.ref 96, .int l1, .int l2, .int (l3 + (1 : Int32))]) (st' := []) (V' := (x_up (x_up V37 109 ((l3 + 1).toNatClampNeg) ((V31 109 (l3.toNatClampNeg)) + x38)) 108 ((l3 + (1 : Int32)).toNatClampNeg) (-1 : Int32))) rfl ?_
            exact ih (l3 + (1 : Int32)) (x_up (x_up V37 109 ((l3 + 1).toNatClampNeg) ((V31 109 (l3.toNatClampNeg)) + x38)) 108 ((l3 + (1 : Int32)).toNatClampNeg) (-1 : Int32))  h
def f_X7_tries_J45 (F : Nat) (l1 : Int32) (l2 : Int32) (l3 : Int32) (V : xV) : Option (xV) := f_X7_tries_L59 F l1 l2 F (fun l3_46 V47 => some V47) l3 (x_up (x_up V 108 0 (-1 : Int32)) 109 0 (0 : Int32))
theorem f_X7_tries_J45_ok (F : Nat) (l1 : Int32) (l2 : Int32) (l3 : Int32) (V : xV)  {W : xV} (h : f_X7_tries_J45 F l1 l2 l3 V = some W) : x_Ex (4) kX7_tries 45 [.ref 96, .int l1, .int l2, .int l3] [] V none W := by
  unfold f_X7_tries_J45 at h
  refine q_go 4 (pc' := 51) (ls' := [.ref 96, .int l1, .int l2, .int l3]) (st' := [.int (-1 : Int32), .int (0 : Int32), .ref 108]) (V' := V) rfl ?_
  refine q_ast rfl rfl rfl ?_
  refine q_go 4 (pc' := 58) (ls' := [.ref 96, .int l1, .int l2, .int l3]) (st' := [.int (0 : Int32), .int (0 : Int32), .ref 109]) (V' := (x_up V 108 0 (-1 : Int32))) rfl ?_
  refine q_ast rfl rfl rfl ?_
  refine f_X7_tries_L59_ok F l1 l2 (fun l3_46 V47 h => ?_) F l3 (x_up (x_up V 108 0 (-1 : Int32)) 109 0 (0 : Int32))  h
  obtain rfl := Option.some.inj h
  exact q_ret rfl rfl
def f_X7_tries (F : Nat) (a0 : Int32) (a1 : Int32) (V : xV) : Option (xV) := if a1 = 0 then (f_X7_tries_L24 F a0 a1 300 (fun l3_4 V5 => f_X7_tries_J45 F a0 a1 (0 : Int32) V5) (0 : Int32) (x_up (x_up V 96 32 (99 : Int32)) 96 33 (1000 : Int32))) else (f_X7_tries_L24 F a0 a1 300 (fun l3_48 V49 => f_X7_tries_J45 F a0 a1 (0 : Int32) V49) (0 : Int32) (x_up (x_up V 96 32 (100 : Int32)) 96 33 (1000 : Int32)))
theorem f_X7_tries_ok {F : Nat} {a0 : Int32} {a1 : Int32} {V W : xV}  (h : f_X7_tries F a0 a1 V = some W) : x_Rn (4) 129 [.ref 96, .int a0, .int a1] V none W := by
  refine ⟨4, kX7_tries, rfl, ?_⟩
  show x_Ex (4) kX7_tries 0 [.ref 96, .int a0, .int a1, .long 0] [] V none W
  unfold f_X7_tries at h
  refine q_go 2 (pc' := 2) (ls' := [.ref 96, .int a0, .int a1, .long 0]) (st' := [.int a1, .ref 96]) (V' := V) rfl ?_
  by_cases hc1 : a1 = 0
  · rw [if_pos hc1] at h
    refine q_if rfl (fun _ => ?_) (fun c => absurd hc1 (of_decide_eq_false c))
    refine q_go 7 (pc' := 24) (ls' := [.ref 96, .int a0, .int a1, .int (0 : Int32)]) (st' := []) (V' := (x_up (x_up V 96 32 (99 : Int32)) 96 33 (1000 : Int32))) rfl ?_
    refine f_X7_tries_L24_ok F a0 a1 (fun l3_4 V5 h => ?_) 300 (0 : Int32) (x_up (x_up V 96 32 (99 : Int32)) 96 33 (1000 : Int32))  h
    refine q_go 2 (pc' := 45) (ls' := [.ref 96, .int a0, .int a1, .int (0 : Int32)]) (st' := []) (V' := V5) rfl ?_
    exact f_X7_tries_J45_ok F a0 a1 (0 : Int32) V5  h
  · rw [if_neg hc1] at h
    refine q_if rfl (fun c => absurd (of_decide_eq_true c) hc1) (fun _ => ?_)
    refine q_go 8 (pc' := 24) (ls' := [.ref 96, .int a0, .int a1, .int (0 : Int32)]) (st' := []) (V' := (x_up (x_up V 96 32 (100 : Int32)) 96 33 (1000 : Int32))) rfl ?_
    refine f_X7_tries_L24_ok F a0 a1 (fun l3_48 V49 h => ?_) 300 (0 : Int32) (x_up (x_up V 96 32 (100 : Int32)) 96 33 (1000 : Int32))  h
    refine q_go 2 (pc' := 45) (ls' := [.ref 96, .int a0, .int a1, .int (0 : Int32)]) (st' := []) (V' := V49) rfl ?_
    exact f_X7_tries_J45_ok F a0 a1 (0 : Int32) V49  h
