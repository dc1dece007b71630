def f_X6_type (a0 : Int32) (V : xV) : Option (Int32 × xV) := if a0 < 0 then (some ((-1 : Int32), V)) else (if a0 ≤ (255 : Int32) then (if (V 0 1) < (100 : Int32) then (if x_in (V 0 1) 100 = true then (some (((V 0 1) + 1), (x_up (x_up V 1 ((V 0 1).toNatClampNeg) a0) 0 1 ((V 0 1) + 1)))) else none) else (some ((-3 : Int32), V))) else (some ((-1 : Int32), V)))
theorem f_X6_type_ok {a0 : Int32} {V W : xV} {x : Int32} (h : f_X6_type a0 V = some (x, W)) : x_Rn (0) 67 [.ref 0, .int a0] V (some x) W := by
  refine ⟨2, kX6_type, rfl, ?_⟩
  show x_Ex (0) kX6_type 0 [.ref 0, .int a0] [] V (some x) W
  unfold f_X6_type at h
  refine q_go 1 (pc' := 1) (ls' := [.ref 0, .int a0]) (st' := [.int a0]) (V' := V) rfl ?_
  by_cases hc1 : a0 < 0
  · rw [if_pos hc1] at h
    refine q_if rfl (fun _ => ?_) (fun c => absurd hc1 (of_decide_eq_false c))
    refine q_go 1 (pc' := 12) (ls' := [.ref 0, .int a0]) (st' := [.int (-1 : Int32)]) (V' := V) rfl ?_
    obtain ⟨rfl, rfl⟩ := x_p2 h
    exact q_ret rfl rfl
  · rw [if_neg hc1] at h
    refine q_if rfl (fun c => absurd (of_decide_eq_true c) hc1) (fun _ => ?_)
    refine q_go 2 (pc' := 8) (ls' := [.ref 0, .int a0]) (st' := [.int (255 : Int32), .int a0]) (V' := V) rfl ?_
    by_cases hc2 : a0 ≤ (255 : Int32)
    · rw [if_pos hc2] at h
      refine q_icmp rfl (fun _ => ?_) (fun c => absurd hc2 (of_decide_eq_false c))
      refine q_go 3 (pc' := 19) (ls' := [.ref 0, .int a0]) (st' := [.int (100 : Int32), .int (V 0 1)]) (V' := V) rfl ?_
      by_cases hc3 : (V 0 1) < (100 : Int32)
      · rw [if_pos hc3] at h
        refine q_icmp rfl (fun _ => ?_) (fun c => absurd hc3 (of_decide_eq_false c))
        refine q_go 5 (pc' := 34) (ls' := [.ref 0, .int a0]) (st' := [.int a0, .int (V 0 1), .ref 1]) (V' := V) rfl ?_
        refine x_em (p := x_in (V 0 1) 100 = true) (fun hz => by rw [if_neg hz] at h; cases h) (fun hc4 => ?_)
        rw [if_pos hc4] at h
        refine q_ast rfl rfl hc4 ?_
        refine q_go 8 (pc' := 49) (ls' := [.ref 0, .int a0]) (st' := [.int ((V 0 1) + 1)]) (V' := (x_up (x_up V 1 ((V 0 1).toNatClampNeg) a0) 0 1 ((V 0 1) + 1))) rfl ?_
        obtain ⟨rfl, rfl⟩ := x_p2 h
        exact q_ret rfl rfl
      · rw [if_neg hc3] at h
        refine q_icmp rfl (fun c => absurd (of_decide_eq_true c) hc3) (fun _ => ?_)
        refine q_go 1 (pc' := 24) (ls' := [.ref 0, .int a0]) (st' := [.int (-3 : Int32)]) (V' := V) rfl ?_
        obtain ⟨rfl, rfl⟩ := x_p2 h
        exact q_ret rfl rfl
    · rw [if_neg hc2] at h
      refine q_icmp rfl (fun c => absurd (of_decide_eq_true c) hc2) (fun _ => ?_)
      refine q_go 1 (pc' := 12) (ls' := [.ref 0, .int a0]) (st' := [.int (-1 : Int32)]) (V' := V) rfl ?_
      obtain ⟨rfl, rfl⟩ := x_p2 h
      exact q_ret rfl rfl
def f_X6_clear (V : xV) : Option (Int32 × xV) := some ((V 0 1), (x_up V 0 1 (0 : Int32)))
theorem f_X6_clear_ok {V W : xV} {x : Int32} (h : f_X6_clear V = some (x, W)) : x_Rn (0) 68 [.ref 0] V (some x) W := by
  refine ⟨2, kX6_clear, rfl, ?_⟩
  show x_Ex (0) kX6_clear 0 [.ref 0, .long 0] [] V (some x) W
  unfold f_X6_clear at h
  refine q_go 7 (pc' := 11) (ls' := [.ref 0, .int (V 0 1)]) (st' := [.int (V 0 1)]) (V' := (x_up V 0 1 (0 : Int32))) rfl ?_
  obtain ⟨rfl, rfl⟩ := x_p2 h
  exact q_ret rfl rfl
def f_X3_takeFrom_2 (V : xV) : Option (xV) := some (x_cpV (x_cpV (x_up (x_up (x_up V 2 0 (V 11 0)) 2 1 (V 11 1)) 2 2 (V 11 2)) 12 3 6) 13 4 4)
theorem f_X3_takeFrom_2_ok {V W : xV}  (h : f_X3_takeFrom_2 V = some W) : x_Rn (0) 39 [.ref 2, .ref 11] V none W := by
  refine ⟨2, kX3_takeFrom, rfl, ?_⟩
  show x_Ex (0) kX3_takeFrom 0 [.ref 2, .ref 11] [] V none W
  unfold f_X3_takeFrom_2 at h
  refine q_go 28 (pc' := 53) (ls' := [.ref 2, .ref 11]) (st' := []) (V' := (x_cpV (x_cpV (x_up (x_up (x_up V 2 0 (V 11 0)) 2 1 (V 11 1)) 2 2 (V 11 2)) 12 3 6) 13 4 4)) rfl ?_
  obtain rfl := Option.some.inj h
  exact q_ret rfl rfl
def f_X0_loseAll (V : xV) : Option (xV) := some (x_up V 19 2 (0 : Int32))
theorem f_X0_loseAll_ok {V W : xV}  (h : f_X0_loseAll V = some W) : x_Rn (0) 2 [.ref 19] V none W := by
  refine ⟨1, kX0_loseAll, rfl, ?_⟩
  show x_Ex (0) kX0_loseAll 0 [.ref 19] [] V none W
  unfold f_X0_loseAll at h
  refine q_go 3 (pc' := 5) (ls' := [.ref 19]) (st' := []) (V' := (x_up V 19 2 (0 : Int32))) rfl ?_
  obtain rfl := Option.some.inj h
  exact q_ret rfl rfl
def f_X5_growStale (V : xV) : Option (xV) := some (x_up V 73 5 (-5 : Int32))
theorem f_X5_growStale_ok {V W : xV}  (h : f_X5_growStale V = some W) : x_Rn (0) 55 [.ref 73] V none W := by
  refine ⟨1, kX5_growStale, rfl, ?_⟩
  show x_Ex (0) kX5_growStale 0 [.ref 73] [] V none W
  unfold f_X5_growStale at h
  refine q_go 3 (pc' := 6) (ls' := [.ref 73]) (st' := []) (V' := (x_up V 73 5 (-5 : Int32))) rfl ?_
  obtain rfl := Option.some.inj h
  exact q_ret rfl rfl
def f_X1_place (V : xV) : Option (Int32 × xV) := some ((V 10 5), V)
theorem f_X1_place_ok {V W : xV} {x : Int32} (h : f_X1_place V = some (x, W)) : x_Rn (0) 6 [.ref 10] V (some x) W := by
  refine ⟨1, kX1_place, rfl, ?_⟩
  show x_Ex (0) kX1_place 0 [.ref 10] [] V (some x) W
  unfold f_X1_place at h
  refine q_go 2 (pc' := 4) (ls' := [.ref 10]) (st' := [.int (V 10 5)]) (V' := V) rfl ?_
  obtain ⟨rfl, rfl⟩ := x_p2 h
  exact q_ret rfl rfl
def f_X6_house (V : xV) : Option (Int32 × xV) := x_b2 (f_X1_readAll (V 0 1) V) (fun x3 V2 => if 0 ≤ x3 then (x_b1 (f_X3_takeFrom_2 V2) (fun V6 => x_b1 (x_tkW 5 14 V6) (fun V8 => x_b1 (f_X0_loseAll V8) (fun V10 => x_b1 (f_X5_growStale (x_up (x_up (x_up V10 0 7 (0 : Int32)) 0 9 (0 : Int32)) 0 1 (0 : Int32))) (fun V12 => some (x3, V12)))))) else (x_b2 (f_X1_place V2) (fun x15 V14 => some (((-10 : Int32) - x15), V14))))
theorem f_X6_house_ok {V W : xV} {x : Int32} (h : f_X6_house V = some (x, W)) : x_Rn (7) 69 [.ref 0] V (some x) W := by
  refine ⟨2, kX6_house, rfl, ?_⟩
  show x_Ex (7) kX6_house 0 [.ref 0, .long 0] [] V (some x) W
  unfold f_X6_house at h
  refine q_go 4 (pc' := 8) (ls' := [.ref 0, .long 0]) (st' := [.int (V 0 1), .ref 10]) (V' := V) rfl ?_
  obtain ⟨x3, V2, hc1, h⟩ := x_b2_eq h
  refine q_call (d := (6)) (as := [.ref 10, .int (V 0 1)]) (pc' := 11) (ls' := [.ref 0, .long 0]) (st' := []) (r1 := some x3) rfl rfl ((f_X1_readAll_ok hc1).up (by decide)) ?_
  refine q_go 2 (pc' := 13) (ls' := [.ref 0, .int x3]) (st' := [.int x3]) (V' := V2) rfl ?_
  by_cases hc4 : 0 ≤ x3
  · rw [if_pos hc4] at h
    refine q_if rfl (fun _ => ?_) (fun c => absurd hc4 (of_decide_eq_false c))
    refine q_go 5 (pc' := 38) (ls' := [.ref 0, .int x3]) (st' := [.ref 11, .ref 2]) (V' := V2) rfl ?_
    obtain ⟨V6, hc5, h⟩ := x_b1_eq h
    refine q_call (d := (6)) (as := [.ref 2, .ref 11]) (pc' := 41) (ls' := [.ref 0, .int x3]) (st' := []) (r1 := none) rfl rfl ((f_X3_takeFrom_2_ok hc5).up (by decide)) ?_
    refine q_go 5 (pc' := 52) (ls' := [.ref 0, .int x3]) (st' := [.ref 14, .ref 5]) (V' := V6) rfl ?_
    obtain ⟨V8, hc7, h⟩ := x_b1_eq h
    refine q_call (d := (6)) (as := [.ref 5, .ref 14]) (pc' := 55) (ls' := [.ref 0, .int x3]) (st' := []) (r1 := none) rfl rfl ((x_tkW_ok (by unfold x_isW; decide) (by unfold x_isW; decide) hc7).up (by decide)) ?_
    refine q_go 2 (pc' := 59) (ls' := [.ref 0, .int x3]) (st' := [.ref 19]) (V' := V8) rfl ?_
    obtain ⟨V10, hc9, h⟩ := x_b1_eq h
    refine q_call (d := (6)) (as := [.ref 19]) (pc' := 62) (ls' := [.ref 0, .int x3]) (st' := []) (r1 := none) rfl rfl ((f_X0_loseAll_ok hc9).up (by decide)) ?_
    refine q_go 11 (pc' := 81) (ls' := [.ref 0, .int x3]) (st' := [.ref 73]) (V' := (x_up (x_up (x_up V10 0 7 (0 : Int32)) 0 9 (0 : Int32)) 0 1 (0 : Int32))) rfl ?_
    obtain ⟨V12, hc11, h⟩ := x_b1_eq h
    refine q_call (d := (6)) (as := [.ref 73]) (pc' := 84) (ls' := [.ref 0, .int x3]) (st' := []) (r1 := none) rfl rfl ((f_X5_growStale_ok hc11).up (by decide)) ?_
    refine q_go 1 (pc' := 85) (ls' := [.ref 0, .int x3]) (st' := [.int x3]) (V' := V12) rfl ?_
    obtain ⟨rfl, rfl⟩ := x_p2 h
    exact q_ret rfl rfl
  · rw [if_neg hc4] at h
    refine q_if rfl (fun c => absurd (of_decide_eq_true c) hc4) (fun _ => ?_)
    refine q_go 3 (pc' := 22) (ls' := [.ref 0, .int x3]) (st' := [.ref 10, .int (-10 : Int32)]) (V' := V2) rfl ?_
    obtain ⟨x15, V14, hc13, h⟩ := x_b2_eq h
    refine q_call (d := (6)) (as := [.ref 10]) (pc' := 25) (ls' := [.ref 0, .int x3]) (st' := [.int (-10 : Int32)]) (r1 := some x15) rfl rfl ((f_X1_place_ok hc13).up (by decide)) ?_
    refine q_go 1 (pc' := 26) (ls' := [.ref 0, .int x3]) (st' := [.int ((-10 : Int32) - x15)]) (V' := V14) rfl ?_
    obtain ⟨rfl, rfl⟩ := x_p2 h
    exact q_ret rfl rfl
def f_X6_isThing (a0 : Int32) (V : xV) : Option (Int32 × xV) := if a0 < 0 then (some ((0 : Int32), V)) else (if (V 2 0) ≤ a0 then (some ((0 : Int32), V)) else (some ((1 : Int32), V)))
theorem f_X6_isThing_ok {a0 : Int32} {V W : xV} {x : Int32} (h : f_X6_isThing a0 V = some (x, W)) : x_Rn (0) 91 [.ref 0, .int a0] V (some x) W := by
  refine ⟨2, kX6_isThing, rfl, ?_⟩
  show x_Ex (0) kX6_isThing 0 [.ref 0, .int a0] [] V (some x) W
  unfold f_X6_isThing at h
  refine q_go 1 (pc' := 1) (ls' := [.ref 0, .int a0]) (st' := [.int a0]) (V' := V) rfl ?_
  by_cases hc1 : a0 < 0
  · rw [if_pos hc1] at h
    refine q_if rfl (fun _ => ?_) (fun c => absurd hc1 (of_decide_eq_false c))
    refine q_go 1 (pc' := 20) (ls' := [.ref 0, .int a0]) (st' := [.int (0 : Int32)]) (V' := V) rfl ?_
    obtain ⟨rfl, rfl⟩ := x_p2 h
    exact q_ret rfl rfl
  · rw [if_neg hc1] at h
    refine q_if rfl (fun c => absurd (of_decide_eq_true c) hc1) (fun _ => ?_)
    refine q_go 4 (pc' := 12) (ls' := [.ref 0, .int a0]) (st' := [.int (V 2 0), .int a0]) (V' := V) rfl ?_
    by_cases hc2 : (V 2 0) ≤ a0
    · rw [if_pos hc2] at h
      refine q_icmp rfl (fun _ => ?_) (fun c => absurd hc2 (of_decide_eq_false c))
      refine q_go 1 (pc' := 20) (ls' := [.ref 0, .int a0]) (st' := [.int (0 : Int32)]) (V' := V) rfl ?_
      obtain ⟨rfl, rfl⟩ := x_p2 h
      exact q_ret rfl rfl
    · rw [if_neg hc2] at h
      refine q_icmp rfl (fun c => absurd (of_decide_eq_true c) hc2) (fun _ => ?_)
      refine q_go 2 (pc' := 20) (ls' := [.ref 0, .int a0]) (st' := [.int (1 : Int32)]) (V' := V) rfl ?_
      obtain ⟨rfl, rfl⟩ := x_p2 h
      exact q_ret rfl rfl
def f_X6_thing (a0 : Int32) (a1 : Int32) (V : xV) : Option (Int32 × xV) := x_b2 (f_X6_isThing a0 V) (fun x3 V2 => if x3 = 0 then (some ((-1 : Int32), V2)) else (if a1 = 0 then (if x_in a0 6 = true then (some ((V2 3 (a0.toNatClampNeg)), V2)) else none) else if a1 = 1 then (if x_in a0 6 = true then (some ((V2 7 (a0.toNatClampNeg)), V2)) else none) else if a1 = 2 then (if x_in a0 6 = true then (some ((V2 8 (a0.toNatClampNeg)), V2)) else none) else if a1 = 3 then (if x_in a0 6 = true then (some ((V2 9 (a0.toNatClampNeg)), V2)) else none) else (some ((-1 : Int32), V2))))
theorem f_X6_thing_ok {a0 : Int32} {a1 : Int32} {V W : xV} {x : Int32} (h : f_X6_thing a0 a1 V = some (x, W)) : x_Rn (1) 70 [.ref 0, .int a0, .int a1] V (some x) W := by
  refine ⟨3, kX6_thing, rfl, ?_⟩
  show x_Ex (1) kX6_thing 0 [.ref 0, .int a0, .int a1] [] V (some x) W
  unfold f_X6_thing at h
  refine q_go 2 (pc' := 2) (ls' := [.ref 0, .int a0, .int a1]) (st' := [.int a0, .ref 0]) (V' := V) rfl ?_
  obtain ⟨x3, V2, hc1, h⟩ := x_b2_eq h
  refine q_call (d := (0)) (as := [.ref 0, .int a0]) (pc' := 5) (ls' := [.ref 0, .int a0, .int a1]) (st' := []) (r1 := some x3) rfl rfl ((f_X6_isThing_ok hc1).up (by decide)) ?_
  by_cases hc4 : x3 = 0
  · rw [if_pos hc4] at h
    refine q_if rfl (fun c => absurd hc4 (of_decide_eq_true c)) (fun _ => ?_)
    refine q_go 1 (pc' := 9) (ls' := [.ref 0, .int a0, .int a1]) (st' := [.int (-1 : Int32)]) (V' := V2) rfl ?_
    obtain ⟨rfl, rfl⟩ := x_p2 h
    exact q_ret rfl rfl
  · rw [if_neg hc4] at h
    refine q_if rfl (fun _ => ?_) (fun c => absurd hc4 (of_decide_eq_false c))
    refine q_go 1 (pc' := 11) (ls' := [.ref 0, .int a0, .int a1]) (st' := [.int a1]) (V' := V2) rfl ?_
    by_cases hc5 : a1 = 0
    · rw [if_pos hc5] at h
      refine q_step (pc' := 40) (ls' := [.ref 0, .int a0, .int a1]) (st' := []) (V' := V2) rfl (by show some (Sum.inl (x_sw [(0, 40), (1, 50), (2, 60), (3, 70)] a1 80, _)) = _; rw [x_sw_eq hc5.symm]) ?_
      refine q_go 4 (pc' := 48) (ls' := [.ref 0, .int a0, .int a1]) (st' := [.int a0, .ref 3]) (V' := V2) rfl ?_
      refine x_em (p := x_in a0 6 = true) (fun hz => by rw [if_neg hz] at h; cases h) (fun hc9 => ?_)
      rw [if_pos hc9] at h
      refine q_ald (Or.inl ⟨rfl, rfl⟩) rfl hc9 ?_
      obtain ⟨rfl, rfl⟩ := x_p2 h
      exact q_ret rfl rfl
    rw [if_neg hc5] at h
    by_cases hc6 : a1 = 1
    · rw [if_pos hc6] at h
      refine q_step (pc' := 50) (ls' := [.ref 0, .int a0, .int a1]) (st' := []) (V' := V2) rfl (by show some (Sum.inl (x_sw [(0, 40), (1, 50), (2, 60), (3, 70)] a1 80, _)) = _; rw [x_sw_ne (fun z => hc5 z.symm), x_sw_eq hc6.symm]) ?_
      refine q_go 4 (pc' := 58) (ls' := [.ref 0, .int a0, .int a1]) (st' := [.int a0, .ref 7]) (V' := V2) rfl ?_
      refine x_em (p := x_in a0 6 = true) (fun hz => by rw [if_neg hz] at h; cases h) (fun hc10 => ?_)
      rw [if_pos hc10] at h
      refine q_ald (Or.inl ⟨rfl, rfl⟩) rfl hc10 ?_
      obtain ⟨rfl, rfl⟩ := x_p2 h
      exact q_ret rfl rfl
    rw [if_neg hc6] at h
    by_cases hc7 : a1 = 2
    · rw [if_pos hc7] at h
      refine q_step (pc' := 60) (ls' := [.ref 0, .int a0, .int a1]) (st' := []) (V' := V2) rfl (by show some (Sum.inl (x_sw [(0, 40), (1, 50), (2, 60), (3, 70)] a1 80, _)) = _; rw [x_sw_ne (fun z => hc5 z.symm), x_sw_ne (fun z => hc6 z.symm), x_sw_eq hc7.symm]) ?_
      refine q_go 4 (pc' := 68) (ls' := [.ref 0, .int a0, .int a1]) (st' := [.int a0, .ref 8]) (V' := V2) rfl ?_
      refine x_em (p := x_in a0 6 = true) (fun hz => by rw [if_neg hz] at h; cases h) (fun hc11 => ?_)
      rw [if_pos hc11] at h
      refine q_ald (Or.inl ⟨rfl, rfl⟩) rfl hc11 ?_
      obtain ⟨rfl, rfl⟩ := x_p2 h
      exact q_ret rfl rfl
    rw [if_neg hc7] at h
    by_cases hc8 : a1 = 3
    · rw [if_pos hc8] at h
      refine q_step (pc' := 70) (ls' := [.ref 0, .int a0, .int a1]) (st' := []) (V' := V2) rfl (by show some (Sum.inl (x_sw [(0, 40), (1, 50), (2, 60), (3, 70)] a1 80, _)) = _; rw [x_sw_ne (fun z => hc5 z.symm), x_sw_ne (fun z => hc6 z.symm), x_sw_ne (fun z => hc7 z.symm), x_sw_eq hc8.symm]) ?_
      refine q_go 4 (pc' := 78) (ls' := [.ref 0, .int a0, .int a1]) (st' := [.int a0, .ref 9]) (V' := V2) rfl ?_
      refine x_em (p := x_in a0 6 = true) (fun hz => by rw [if_neg hz] at h; cases h) (fun hc12 => ?_)
      rw [if_pos hc12] at h
      refine q_ald (Or.inl ⟨rfl, rfl⟩) rfl hc12 ?_
      obtain ⟨rfl, rfl⟩ := x_p2 h
      exact q_ret rfl rfl
    rw [if_neg hc8] at h
    refine q_step (pc' := 80) (ls' := [.ref 0, .int a0, .int a1]) (st' := []) (V' := V2) rfl (by show some (Sum.inl (x_sw [(0, 40), (1, 50), (2, 60), (3, 70)] a1 80, _)) = _; rw [x_sw_ne (fun z => hc5 z.symm), x_sw_ne (fun z => hc6 z.symm), x_sw_ne (fun z => hc7 z.symm), x_sw_ne (fun z => hc8 z.symm), x_sw_nil]) ?_
    refine q_go 1 (pc' := 81) (ls' := [.ref 0, .int a0, .int a1]) (st' := [.int (-1 : Int32)]) (V' := V2) rfl ?_
    obtain ⟨rfl, rfl⟩ := x_p2 h
    exact q_ret rfl rfl
def f_X6_isSeason (a0 : Int32) (V : xV) : Option (Int32 × xV) := if a0 < 0 then (some ((0 : Int32), V)) else (if (V 2 1) ≤ a0 then (some ((0 : Int32), V)) else (some ((1 : Int32), V)))
theorem f_X6_isSeason_ok {a0 : Int32} {V W : xV} {x : Int32} (h : f_X6_isSeason a0 V = some (x, W)) : x_Rn (0) 92 [.ref 0, .int a0] V (some x) W := by
  refine ⟨2, kX6_isSeason, rfl, ?_⟩
  show x_Ex (0) kX6_isSeason 0 [.ref 0, .int a0] [] V (some x) W
  unfold f_X6_isSeason at h
  refine q_go 1 (pc' := 1) (ls' := [.ref 0, .int a0]) (st' := [.int a0]) (V' := V) rfl ?_
  by_cases hc1 : a0 < 0
  · rw [if_pos hc1] at h
    refine q_if rfl (fun _ => ?_) (fun c => absurd hc1 (of_decide_eq_false c))
    refine q_go 1 (pc' := 20) (ls' := [.ref 0, .int a0]) (st' := [.int (0 : Int32)]) (V' := V) rfl ?_
    obtain ⟨rfl, rfl⟩ := x_p2 h
    exact q_ret rfl rfl
  · rw [if_neg hc1] at h
    refine q_if rfl (fun c => absurd (of_decide_eq_true c) hc1) (fun _ => ?_)
    refine q_go 4 (pc' := 12) (ls' := [.ref 0, .int a0]) (st' := [.int (V 2 1), .int a0]) (V' := V) rfl ?_
    by_cases hc2 : (V 2 1) ≤ a0
    · rw [if_pos hc2] at h
      refine q_icmp rfl (fun _ => ?_) (fun c => absurd hc2 (of_decide_eq_false c))
      refine q_go 1 (pc' := 20) (ls' := [.ref 0, .int a0]) (st' := [.int (0 : Int32)]) (V' := V) rfl ?_
      obtain ⟨rfl, rfl⟩ := x_p2 h
      exact q_ret rfl rfl
    · rw [if_neg hc2] at h
      refine q_icmp rfl (fun c => absurd (of_decide_eq_true c) hc2) (fun _ => ?_)
      refine q_go 2 (pc' := 20) (ls' := [.ref 0, .int a0]) (st' := [.int (1 : Int32)]) (V' := V) rfl ?_
      obtain ⟨rfl, rfl⟩ := x_p2 h
      exact q_ret rfl rfl
def f_X6_light (a0 : Int32) (V : xV) : Option (Int32 × xV) := x_b2 (f_X6_isSeason a0 V) (fun x3 V2 => if x3 = 0 then (some ((-1 : Int32), V2)) else (if x_in a0 4 = true then (some ((V2 4 (a0.toNatClampNeg)), V2)) else none))
theorem f_X6_light_ok {a0 : Int32} {V W : xV} {x : Int32} (h : f_X6_light a0 V = some (x, W)) : x_Rn (1) 71 [.ref 0, .int a0] V (some x) W := by
  refine ⟨2, kX6_light, rfl, ?_⟩
  show x_Ex (1) kX6_light 0 [.ref 0, .int a0] [] V (some x) W
  unfold f_X6_light at h
  refine q_go 2 (pc' := 2) (ls' := [.ref 0, .int a0]) (st' := [.int a0, .ref 0]) (V' := V) rfl ?_
  obtain ⟨x3, V2, hc1, h⟩ := x_b2_eq h
  refine q_call (d := (0)) (as := [.ref 0, .int a0]) (pc' := 5) (ls' := [.ref 0, .int a0]) (st' := []) (r1 := some x3) rfl rfl ((f_X6_isSeason_ok hc1).up (by decide)) ?_
  by_cases hc4 : x3 = 0
  · rw [if_pos hc4] at h
    refine q_if rfl (fun _ => ?_) (fun c => absurd hc4 (of_decide_eq_false c))
    refine q_go 1 (pc' := 21) (ls' := [.ref 0, .int a0]) (st' := [.int (-1 : Int32)]) (V' := V2) rfl ?_
    obtain ⟨rfl, rfl⟩ := x_p2 h
    exact q_ret rfl rfl
  · rw [if_neg hc4] at h
    refine q_if rfl (fun c => absurd (of_decide_eq_true c) hc4) (fun _ => ?_)
    refine q_go 4 (pc' := 16) (ls' := [.ref 0, .int a0]) (st' := [.int a0, .ref 4]) (V' := V2) rfl ?_
    refine x_em (p := x_in a0 4 = true) (fun hz => by rw [if_neg hz] at h; cases h) (fun hc5 => ?_)
    rw [if_pos hc5] at h
    refine q_ald (Or.inl ⟨rfl, rfl⟩) rfl hc5 ?_
    refine q_go 1 (pc' := 21) (ls' := [.ref 0, .int a0]) (st' := [.int (V2 4 (a0.toNatClampNeg))]) (V' := V2) rfl ?_
    obtain ⟨rfl, rfl⟩ := x_p2 h
    exact q_ret rfl rfl
def f_X6_isCase (a0 : Int32) (V : xV) : Option (Int32 × xV) := if a0 < 0 then (some ((0 : Int32), V)) else (if (V 2 2) ≤ a0 then (some ((0 : Int32), V)) else (some ((1 : Int32), V)))
theorem f_X6_isCase_ok {a0 : Int32} {V W : xV} {x : Int32} (h : f_X6_isCase a0 V = some (x, W)) : x_Rn (0) 93 [.ref 0, .int a0] V (some x) W := by
  refine ⟨2, kX6_isCase, rfl, ?_⟩
  show x_Ex (0) kX6_isCase 0 [.ref 0, .int a0] [] V (some x) W
  unfold f_X6_isCase at h
  refine q_go 1 (pc' := 1) (ls' := [.ref 0, .int a0]) (st' := [.int a0]) (V' := V) rfl ?_
  by_cases hc1 : a0 < 0
  · rw [if_pos hc1] at h
    refine q_if rfl (fun _ => ?_) (fun c => absurd hc1 (of_decide_eq_false c))
    refine q_go 1 (pc' := 20) (ls' := [.ref 0, .int a0]) (st' := [.int (0 : Int32)]) (V' := V) rfl ?_
    obtain ⟨rfl, rfl⟩ := x_p2 h
    exact q_ret rfl rfl
  · rw [if_neg hc1] at h
    refine q_if rfl (fun c => absurd (of_decide_eq_true c) hc1) (fun _ => ?_)
    refine q_go 4 (pc' := 12) (ls' := [.ref 0, .int a0]) (st' := [.int (V 2 2), .int a0]) (V' := V) rfl ?_
    by_cases hc2 : (V 2 2) ≤ a0
    · rw [if_pos hc2] at h
      refine q_icmp rfl (fun _ => ?_) (fun c => absurd hc2 (of_decide_eq_false c))
      refine q_go 1 (pc' := 20) (ls' := [.ref 0, .int a0]) (st' := [.int (0 : Int32)]) (V' := V) rfl ?_
      obtain ⟨rfl, rfl⟩ := x_p2 h
      exact q_ret rfl rfl
    · rw [if_neg hc2] at h
      refine q_icmp rfl (fun c => absurd (of_decide_eq_true c) hc2) (fun _ => ?_)
      refine q_go 2 (pc' := 20) (ls' := [.ref 0, .int a0]) (st' := [.int (1 : Int32)]) (V' := V) rfl ?_
      obtain ⟨rfl, rfl⟩ := x_p2 h
      exact q_ret rfl rfl
def f_X6_down (a0 : Int32) (a1 : Int32) (V : xV) : Option (Int32 × xV) := x_b2 (f_X6_isSeason a0 V) (fun x3 V2 => if x3 = 0 then (some ((-1 : Int32), V2)) else (x_b2 (f_X6_isCase a1 V2) (fun x7 V6 => if x7 = 0 then (some ((-1 : Int32), V6)) else (x_b2 (f_X3_slotOf_2 a0 a1 V6) (fun x11 V10 => if x_in x11 8 = true then (some ((V10 6 (x11.toNatClampNeg)), V10)) else none)))))
theorem f_X6_down_ok {a0 : Int32} {a1 : Int32} {V W : xV} {x : Int32} (h : f_X6_down a0 a1 V = some (x, W)) : x_Rn (1) 72 [.ref 0, .int a0, .int a1] V (some x) W := by
  refine ⟨3, kX6_down, rfl, ?_⟩
  show x_Ex (1) kX6_down 0 [.ref 0, .int a0, .int a1] [] V (some x) W
  unfold f_X6_down at h
  refine q_go 2 (pc' := 2) (ls' := [.ref 0, .int a0, .int a1]) (st' := [.int a0, .ref 0]) (V' := V) rfl ?_
  obtain ⟨x3, V2, hc1, h⟩ := x_b2_eq h
  refine q_call (d := (0)) (as := [.ref 0, .int a0]) (pc' := 5) (ls' := [.ref 0, .int a0, .int a1]) (st' := []) (r1 := some x3) rfl rfl ((f_X6_isSeason_ok hc1).up (by decide)) ?_
  by_cases hc4 : x3 = 0
  · rw [if_pos hc4] at h
    refine q_if rfl (fun _ => ?_) (fun c => absurd hc4 (of_decide_eq_false c))
    refine q_go 1 (pc' := 37) (ls' := [.ref 0, .int a0, .int a1]) (st' := [.int (-1 : Int32)]) (V' := V2) rfl ?_
    obtain ⟨rfl, rfl⟩ := x_p2 h
    exact q_ret rfl rfl
  · rw [if_neg hc4] at h
    refine q_if rfl (fun c => absurd (of_decide_eq_true c) hc4) (fun _ => ?_)
    refine q_go 2 (pc' := 10) (ls' := [.ref 0, .int a0, .int a1]) (st' := [.int a1, .ref 0]) (V' := V2) rfl ?_
    obtain ⟨x7, V6, hc5, h⟩ := x_b2_eq h
    refine q_call (d := (0)) (as := [.ref 0, .int a1]) (pc' := 13) (ls' := [.ref 0, .int a0, .int a1]) (st' := []) (r1 := some x7) rfl rfl ((f_X6_isCase_ok hc5).up (by decide)) ?_
    by_cases hc8 : x7 = 0
    · rw [if_pos hc8] at h
      refine q_if rfl (fun _ => ?_) (fun c => absurd hc8 (of_decide_eq_false c))
      refine q_go 1 (pc' := 37) (ls' := [.ref 0, .int a0, .int a1]) (st' := [.int (-1 : Int32)]) (V' := V6) rfl ?_
      obtain ⟨rfl, rfl⟩ := x_p2 h
      exact q_ret rfl rfl
    · rw [if_neg hc8] at h
      refine q_if rfl (fun c => absurd (of_decide_eq_true c) hc8) (fun _ => ?_)
      refine q_go 7 (pc' := 29) (ls' := [.ref 0, .int a0, .int a1]) (st' := [.int a1, .int a0, .ref 2, .ref 6]) (V' := V6) rfl ?_
      obtain ⟨x11, V10, hc9, h⟩ := x_b2_eq h
      refine q_call (d := (0)) (as := [.ref 2, .int a0, .int a1]) (pc' := 32) (ls' := [.ref 0, .int a0, .int a1]) (st' := [.ref 6]) (r1 := some x11) rfl rfl ((f_X3_slotOf_2_ok hc9).up (by decide)) ?_
      refine x_em (p := x_in x11 8 = true) (fun hz => by rw [if_neg hz] at h; cases h) (fun hc12 => ?_)
      rw [if_pos hc12] at h
      refine q_ald (Or.inl ⟨rfl, rfl⟩) rfl hc12 ?_
      refine q_go 1 (pc' := 37) (ls' := [.ref 0, .int a0, .int a1]) (st' := [.int (V10 6 (x11.toNatClampNeg))]) (V' := V10) rfl ?_
      obtain ⟨rfl, rfl⟩ := x_p2 h
      exact q_ret rfl rfl
def f_X0_remember (V : xV) : Option (xV) := if x_in (V 19 1) 10 = true then (x_b1 (x_tkW (21 + 5 * ((V 19 1).toNatClampNeg)) 5 V) (fun V3 => some (x_up (x_up V3 19 1 (((V3 19 1) + 1) - ((V3 19 1) + 1) / (10 : Int32) * (10 : Int32))) 19 2 (if (10 : Int32) < ((V3 19 2) + 1) then (10 : Int32) else ((V3 19 2) + 1))))) else none
theorem f_X0_remember_ok {V W : xV}  (h : f_X0_remember V = some W) : x_Rn (1) 3 [.ref 19, .ref 5] V none W := by
  refine ⟨2, kX0_remember, rfl, ?_⟩
  show x_Ex (1) kX0_remember 0 [.ref 19, .ref 5] [] V none W
  unfold f_X0_remember at h
  refine q_go 4 (pc' := 8) (ls' := [.ref 19, .ref 5]) (st' := [.int (V 19 1), .ref 20]) (V' := V) rfl ?_
  refine x_em (p := x_in (V 19 1) 10 = true) (fun hz => by rw [if_neg hz] at h; cases h) (fun hc1 => ?_)
  rw [if_pos hc1] at h
  refine q_aald rfl rfl hc1 (x_aref20 hc1) ?_
  refine q_go 1 (pc' := 10) (ls' := [.ref 19, .ref 5]) (st' := [.ref 5, .ref (21 + 5 * ((V 19 1).toNatClampNeg))]) (V' := V) rfl ?_
  obtain ⟨V3, hc2, h⟩ := x_b1_eq h
  refine q_call (d := (0)) (as := [.ref (21 + 5 * ((V 19 1).toNatClampNeg)), .ref 5]) (pc' := 13) (ls' := [.ref 19, .ref 5]) (st' := []) (r1 := none) rfl (x_c26 (x_isW20 hc1) (Nat.le_of_ble_eq_true rfl)) ((x_tkW_ok (x_isW20 hc1) (by unfold x_isW; decide) hc2).up (by decide)) ?_
  refine q_go 16 (pc' := 41) (ls' := [.ref 19, .ref 5]) (st' := []) (V' := (x_up (x_up V3 19 1 (((V3 19 1) + 1) - ((V3 19 1) + 1) / (10 : Int32) * (10 : Int32))) 19 2 (if (10 : Int32) < ((V3 19 2) + 1) then (10 : Int32) else ((V3 19 2) + 1)))) rfl ?_
  obtain rfl := Option.some.inj h
  exact q_ret rfl rfl
def f_X6_rememberWishes (V : xV) : Option (xV) := x_b1 (f_X0_remember V) (fun V2 => x_b1 (f_X5_growStale V2) (fun V4 => some V4))
theorem f_X6_rememberWishes_ok {V W : xV}  (h : f_X6_rememberWishes V = some W) : x_Rn (2) 94 [.ref 0] V none W := by
  refine ⟨1, kX6_rememberWishes, rfl, ?_⟩
  show x_Ex (2) kX6_rememberWishes 0 [.ref 0] [] V none W
  unfold f_X6_rememberWishes at h
  refine q_go 4 (pc' := 8) (ls' := [.ref 0]) (st' := [.ref 5, .ref 19]) (V' := V) rfl ?_
  obtain ⟨V2, hc1, h⟩ := x_b1_eq h
  refine q_call (d := (1)) (as := [.ref 19, .ref 5]) (pc' := 11) (ls' := [.ref 0]) (st' := []) (r1 := none) rfl rfl ((f_X0_remember_ok hc1).up (by decide)) ?_
  refine q_go 2 (pc' := 15) (ls' := [.ref 0]) (st' := [.ref 73]) (V' := V2) rfl ?_
  obtain ⟨V4, hc3, h⟩ := x_b1_eq h
  refine q_call (d := (1)) (as := [.ref 73]) (pc' := 18) (ls' := [.ref 0]) (st' := []) (r1 := none) rfl rfl ((f_X5_growStale_ok hc3).up (by decide)) ?_
  obtain rfl := Option.some.inj h
  exact q_ret rfl rfl
def f_X6_sets_J69 (l1 : Int32) (l2 : Int32) (l3 : Int32) (l4 : Int32) (l5 : Int32) (l6 : Int32) (V : xV) : Option (Int32 × xV) := if l5 = l6 then (some ((-2 : Int32), V)) else (x_b1 (f_X6_rememberWishes V) (fun V16 => if x_in l4 8 = true then (some (l5, (x_up V16 6 (l4.toNatClampNeg) l6))) else none))
theorem f_X6_sets_J69_ok (l1 : Int32) (l2 : Int32) (l3 : Int32) (l4 : Int32) (l5 : Int32) (l6 : Int32) (V : xV) {x : Int32} {W : xV} (h : f_X6_sets_J69 l1 l2 l3 l4 l5 l6 V = some (x, W)) : x_Ex (3) kX6_sets 69 [.ref 0, .int l1, .int l2, .int l3, .int l4, .int l5, .int l6] [] V (some x) W := by
  unfold f_X6_sets_J69 at h
  refine q_go 2 (pc' := 73) (ls' := [.ref 0, .int l1, .int l2, .int l3, .int l4, .int l5, .int l6]) (st' := [.int l6, .int l5]) (V' := V) rfl ?_
  by_cases hc14 : l5 = l6
  · rw [if_pos hc14] at h
    refine q_icmp rfl (fun c => absurd hc14 (of_decide_eq_true c)) (fun _ => ?_)
    refine q_go 1 (pc' := 78) (ls' := [.ref 0, .int l1, .int l2, .int l3, .int l4, .int l5, .int l6]) (st' := [.int (-2 : Int32)]) (V' := V) rfl ?_
    obtain ⟨rfl, rfl⟩ := x_p2 h
    exact q_ret rfl rfl
  · rw [if_neg hc14] at h
    refine q_icmp rfl (fun _ => ?_) (fun c => absurd hc14 (of_decide_eq_false c))
    refine q_go 1 (pc' := 80) (ls' := [.ref 0, .int l1, .int l2, .int l3, .int l4, .int l5, .int l6]) (st' := [.ref 0]) (V' := V) rfl ?_
    obtain ⟨V16, hc15, h⟩ := x_b1_eq h
    refine q_call (d := (2)) (as := [.ref 0]) (pc' := 83) (ls' := [.ref 0, .int l1, .int l2, .int l3, .int l4, .int l5, .int l6]) (st' := []) (r1 := none) rfl rfl ((f_X6_rememberWishes_ok hc15).up (by decide)) ?_
    refine q_go 5 (pc' := 94) (ls' := [.ref 0, .int l1, .int l2, .int l3, .int l4, .int l5, .int l6]) (st' := [.int l6, .int l4, .ref 6]) (V' := V16) rfl ?_
    refine x_em (p := x_in l4 8 = true) (fun hz => by rw [if_neg hz] at h; cases h) (fun hc17 => ?_)
    rw [if_pos hc17] at h
    refine q_ast rfl rfl hc17 ?_
    refine q_go 1 (pc' := 97) (ls' := [.ref 0, .int l1, .int l2, .int l3, .int l4, .int l5, .int l6]) (st' := [.int l5]) (V' := (x_up V16 6 (l4.toNatClampNeg) l6)) rfl ?_
    obtain ⟨rfl, rfl⟩ := x_p2 h
    exact q_ret rfl rfl
def f_X6_sets (a0 : Int32) (a1 : Int32) (a2 : Int32) (V : xV) : Option (Int32 × xV) := x_b2 (f_X6_isSeason a0 V) (fun x3 V2 => if x3 = 0 then (some ((-1 : Int32), V2)) else (x_b2 (f_X6_isCase a1 V2) (fun x7 V6 => if x7 = 0 then (some ((-1 : Int32), V6)) else (if a2 = (6 : Int32) then (x_b2 (f_X3_slotOf_2 a0 a1 V6) (fun x12 V11 => if x_in x12 8 = true then (f_X6_sets_J69 a0 a1 a2 x12 (V11 6 (x12.toNatClampNeg)) (-9 : Int32) V11) else none)) else (x_b2 (f_X6_isThing a2 V6) (fun x20 V19 => if x20 = 0 then (some ((-1 : Int32), V19)) else (x_b2 (f_X3_slotOf_2 a0 a1 V19) (fun x24 V23 => if x_in x24 8 = true then (f_X6_sets_J69 a0 a1 a2 x24 (V23 6 (x24.toNatClampNeg)) a2 V23) else none))))))))
theorem f_X6_sets_ok {a0 : Int32} {a1 : Int32} {a2 : Int32} {V W : xV} {x : Int32} (h : f_X6_sets a0 a1 a2 V = some (x, W)) : x_Rn (3) 73 [.ref 0, .int a0, .int a1, .int a2] V (some x) W := by
  refine ⟨7, kX6_sets, rfl, ?_⟩
  show x_Ex (3) kX6_sets 0 [.ref 0, .int a0, .int a1, .int a2, .long 0, .long 0, .long 0] [] V (some x) W
  unfold f_X6_sets at h
  refine q_go 2 (pc' := 2) (ls' := [.ref 0, .int a0, .int a1, .int a2, .long 0, .long 0, .long 0]) (st' := [.int a0, .ref 0]) (V' := V) rfl ?_
  obtain ⟨x3, V2, hc1, h⟩ := x_b2_eq h
  refine q_call (d := (2)) (as := [.ref 0, .int a0]) (pc' := 5) (ls' := [.ref 0, .int a0, .int a1, .int a2, .long 0, .long 0, .long 0]) (st' := []) (r1 := some x3) rfl rfl ((f_X6_isSeason_ok hc1).up (by decide)) ?_
  by_cases hc4 : x3 = 0
  · rw [if_pos hc4] at h
    refine q_if rfl (fun _ => ?_) (fun c => absurd hc4 (of_decide_eq_false c))
    refine q_go 1 (pc' := 31) (ls' := [.ref 0, .int a0, .int a1, .int a2, .long 0, .long 0, .long 0]) (st' := [.int (-1 : Int32)]) (V' := V2) rfl ?_
    obtain ⟨rfl, rfl⟩ := x_p2 h
    exact q_ret rfl rfl
  · rw [if_neg hc4] at h
    refine q_if rfl (fun c => absurd (of_decide_eq_true c) hc4) (fun _ => ?_)
    refine q_go 2 (pc' := 10) (ls' := [.ref 0, .int a0, .int a1, .int a2, .long 0, .long 0, .long 0]) (st' := [.int a1, .ref 0]) (V' := V2) rfl ?_
    obtain ⟨x7, V6, hc5, h⟩ := x_b2_eq h
    refine q_call (d := (2)) (as := [.ref 0, .int a1]) (pc' := 13) (ls' := [.ref 0, .int a0, .int a1, .int a2, .long 0, .long 0, .long 0]) (st' := []) (r1 := some x7) rfl rfl ((f_X6_isCase_ok hc5).up (by decide)) ?_
    by_cases hc8 : x7 = 0
    · rw [if_pos hc8] at h
      refine q_if rfl (fun _ => ?_) (fun c => absurd hc8 (of_decide_eq_false c))
      refine q_go 1 (pc' := 31) (ls' := [.ref 0, .int a0, .int a1, .int a2, .long 0, .long 0, .long 0]) (st' := [.int (-1 : Int32)]) (V' := V6) rfl ?_
      obtain ⟨rfl, rfl⟩ := x_p2 h
      exact q_ret rfl rfl
    · rw [if_neg hc8] at h
      refine q_if rfl (fun c => absurd (of_decide_eq_true c) hc8) (fun _ => ?_)
      refine q_go 2 (pc' := 19) (ls' := [.ref 0, .int a0, .int a1, .int a2, .long 0, .long 0, .long 0]) (st' := [.int (6 : Int32), .int a2]) (V' := V6) rfl ?_
      by_cases hc9 : a2 = (6 : Int32)
      · rw [if_pos hc9] at h
        refine q_icmp rfl (fun _ => ?_) (fun c => absurd hc9 (of_decide_eq_false c))
        refine q_go 4 (pc' := 38) (ls' := [.ref 0, .int a0, .int a1, .int a2, .long 0, .long 0, .long 0]) (st' := [.int a1, .int a0, .ref 2]) (V' := V6) rfl ?_
        obtain ⟨x12, V11, hc10, h⟩ := x_b2_eq h
        refine q_call (d := (2)) (as := [.ref 2, .int a0, .int a1]) (pc' := 41) (ls' := [.ref 0, .int a0, .int a1, .int a2, .long 0, .long 0, .long 0]) (st' := []) (r1 := some x12) rfl rfl ((f_X3_slotOf_2_ok hc10).up (by decide)) ?_
        refine q_go 5 (pc' := 52) (ls' := [.ref 0, .int a0, .int a1, .int a2, .int x12, .long 0, .long 0]) (st' := [.int x12, .ref 6]) (V' := V11) rfl ?_
        refine x_em (p := x_in x12 8 = true) (fun hz => by rw [if_neg hz] at h; cases h) (fun hc13 => ?_)
        rw [if_pos hc13] at h
        refine q_ald (Or.inl ⟨rfl, rfl⟩) rfl hc13 ?_
        refine q_go 3 (pc' := 58) (ls' := [.ref 0, .int a0, .int a1, .int a2, .int x12, .int (V11 6 (x12.toNatClampNeg)), .long 0]) (st' := [.int (6 : Int32), .int a2]) (V' := V11) rfl ?_
        refine q_icmp rfl (fun c => absurd hc9 (of_decide_eq_true c)) (fun _ => ?_)
        refine q_go 3 (pc' := 69) (ls' := [.ref 0, .int a0, .int a1, .int a2, .int x12, .int (V11 6 (x12.toNatClampNeg)), .int (-9 : Int32)]) (st' := []) (V' := V11) rfl ?_
        exact f_X6_sets_J69_ok a0 a1 a2 x12 (V11 6 (x12.toNatClampNeg)) (-9 : Int32) V11  h
      · rw [if_neg hc9] at h
        refine q_icmp rfl (fun c => absurd (of_decide_eq_true c) hc9) (fun _ => ?_)
        refine q_go 2 (pc' := 24) (ls' := [.ref 0, .int a0, .int a1, .int a2, .long 0, .long 0, .long 0]) (st' := [.int a2, .ref 0]) (V' := V6) rfl ?_
        obtain ⟨x20, V19, hc18, h⟩ := x_b2_eq h
        refine q_call (d := (2)) (as := [.ref 0, .int a2]) (pc' := 27) (ls' := [.ref 0, .int a0, .int a1, .int a2, .long 0, .long 0, .long 0]) (st' := []) (r1 := some x20) rfl rfl ((f_X6_isThing_ok hc18).up (by decide)) ?_
        by_cases hc21 : x20 = 0
        · rw [if_pos hc21] at h
          refine q_if rfl (fun c => absurd hc21 (of_decide_eq_true c)) (fun _ => ?_)
          refine q_go 1 (pc' := 31) (ls' := [.ref 0, .int a0, .int a1, .int a2, .long 0, .long 0, .long 0]) (st' := [.int (-1 : Int32)]) (V' := V19) rfl ?_
          obtain ⟨rfl, rfl⟩ := x_p2 h
          exact q_ret rfl rfl
        · rw [if_neg hc21] at h
          refine q_if rfl (fun _ => ?_) (fun c => absurd hc21 (of_decide_eq_false c))
          refine q_go 4 (pc' := 38) (ls' := [.ref 0, .int a0, .int a1, .int a2, .long 0, .long 0, .long 0]) (st' := [.int a1, .int a0, .ref 2]) (V' := V19) rfl ?_
          obtain ⟨x24, V23, hc22, h⟩ := x_b2_eq h
          refine q_call (d := (2)) (as := [.ref 2, .int a0, .int a1]) (pc' := 41) (ls' := [.ref 0, .int a0, .int a1, .int a2, .long 0, .long 0, .long 0]) (st' := []) (r1 := some x24) rfl rfl ((f_X3_slotOf_2_ok hc22).up (by decide)) ?_
          refine q_go 5 (pc' := 52) (ls' := [.ref 0, .int a0, .int a1, .int a2, .int x24, .long 0, .long 0]) (st' := [.int x24, .ref 6]) (V' := V23) rfl ?_
          refine x_em (p := x_in x24 8 = true) (fun hz => by rw [if_neg hz] at h; cases h) (fun hc25 => ?_)
          rw [if_pos hc25] at h
          refine q_ald (Or.inl ⟨rfl, rfl⟩) rfl hc25 ?_
          refine q_go 3 (pc' := 58) (ls' := [.ref 0, .int a0, .int a1, .int a2, .int x24, .int (V23 6 (x24.toNatClampNeg)), .long 0]) (st' := [.int (6 : Int32), .int a2]) (V' := V23) rfl ?_
          refine q_icmp rfl (fun _ => ?_) (fun c => absurd hc9 (of_decide_eq_false c))
          refine q_go 2 (pc' := 69) (ls' := [.ref 0, .int a0, .int a1, .int a2, .int x24, .int (V23 6 (x24.toNatClampNeg)), .int a2]) (st' := []) (V' := V23) rfl ?_
          exact f_X6_sets_J69_ok a0 a1 a2 x24 (V23 6 (x24.toNatClampNeg)) a2 V23  h
def f_X4_loanAsNumber_5 (a0 : Int32) (V : xV) : Option (Int32 × xV) := if x_in a0 6 = true then (if (V 7 (a0.toNatClampNeg)) = (-9 : Int32) then (some ((-9 : Int32), V)) else (some ((((10 : Int32) * (V 7 (a0.toNatClampNeg))) + (V 8 (a0.toNatClampNeg))), V))) else none
theorem f_X4_loanAsNumber_5_ok {a0 : Int32} {V W : xV} {x : Int32} (h : f_X4_loanAsNumber_5 a0 V = some (x, W)) : x_Rn (0) 46 [.ref 5, .int a0] V (some x) W := by
  refine ⟨2, kX4_loanAsNumber, rfl, ?_⟩
  show x_Ex (0) kX4_loanAsNumber 0 [.ref 5, .int a0] [] V (some x) W
  unfold f_X4_loanAsNumber_5 at h
  refine q_go 3 (pc' := 5) (ls' := [.ref 5, .int a0]) (st' := [.int a0, .ref 7]) (V' := V) rfl ?_
  refine x_em (p := x_in a0 6 = true) (fun hz => by rw [if_neg hz] at h; cases h) (fun hc1 => ?_)
  rw [if_pos hc1] at h
  refine q_ald (Or.inl ⟨rfl, rfl⟩) rfl hc1 ?_
  refine q_go 1 (pc' := 8) (ls' := [.ref 5, .int a0]) (st' := [.int (-9 : Int32), .int (V 7 (a0.toNatClampNeg))]) (V' := V) rfl ?_
  by_cases hc2 : (V 7 (a0.toNatClampNeg)) = (-9 : Int32)
  · rw [if_pos hc2] at h
    refine q_icmp rfl (fun c => absurd hc2 (of_decide_eq_true c)) (fun _ => ?_)
    refine q_go 2 (pc' := 32) (ls' := [.ref 5, .int a0]) (st' := [.int (-9 : Int32)]) (V' := V) rfl ?_
    obtain ⟨rfl, rfl⟩ := x_p2 h
    exact q_ret rfl rfl
  · rw [if_neg hc2] at h
    refine q_icmp rfl (fun _ => ?_) (fun c => absurd hc2 (of_decide_eq_false c))
    refine q_go 4 (pc' := 23) (ls' := [.ref 5, .int a0]) (st' := [.int a0, .ref 7, .int (10 : Int32)]) (V' := V) rfl ?_
    refine q_ald (Or.inl ⟨rfl, rfl⟩) rfl hc1 ?_
    refine q_go 4 (pc' := 30) (ls' := [.ref 5, .int a0]) (st' := [.int a0, .ref 8, .int ((10 : Int32) * (V 7 (a0.toNatClampNeg)))]) (V' := V) rfl ?_
    refine q_ald (Or.inl ⟨rfl, rfl⟩) rfl hc1 ?_
    refine q_go 1 (pc' := 32) (ls' := [.ref 5, .int a0]) (st' := [.int (((10 : Int32) * (V 7 (a0.toNatClampNeg))) + (V 8 (a0.toNatClampNeg)))]) (V' := V) rfl ?_
    obtain ⟨rfl, rfl⟩ := x_p2 h
    exact q_ret rfl rfl
def f_X6_lends_J90 (l1 : Int32) (l2 : Int32) (l3 : Int32) (l4 : Int32) (l5 : Int32) (l6 : Int32) (l7 : Int32) (V : xV) : Option (Int32 × xV) := if x_in l1 6 = true then (if (V 7 (l1.toNatClampNeg)) = l6 then (if (V 8 (l1.toNatClampNeg)) = l7 then (some ((-2 : Int32), V)) else (x_b2 (f_X4_loanAsNumber_5 l1 V) (fun x22 V21 => x_b1 (f_X6_rememberWishes V21) (fun V24 => some (x22, (x_up (x_up V24 7 (l1.toNatClampNeg) l6) 8 (l1.toNatClampNeg) l7)))))) else (x_b2 (f_X4_loanAsNumber_5 l1 V) (fun x16 V15 => x_b1 (f_X6_rememberWishes V15) (fun V18 => some (x16, (x_up (x_up V18 7 (l1.toNatClampNeg) l6) 8 (l1.toNatClampNeg) l7)))))) else none
theorem f_X6_lends_J90_ok (l1 : Int32) (l2 : Int32) (l3 : Int32) (l4 : Int32) (l5 : Int32) (l6 : Int32) (l7 : Int32) (V : xV) (g8 : Value) {x : Int32} {W : xV} (h : f_X6_lends_J90 l1 l2 l3 l4 l5 l6 l7 V = some (x, W)) : x_Ex (3) kX6_lends 90 [.ref 0, .int l1, .int l2, .int l3, .int l4, .int l5, .int l6, .int l7, g8] [] V (some x) W := by
  unfold f_X6_lends_J90 at h
  refine q_go 4 (pc' := 98) (ls' := [.ref 0, .int l1, .int l2, .int l3, .int l4, .int l5, .int l6, .int l7, g8]) (st' := [.int l1, .ref 7]) (V' := V) rfl ?_
  refine x_em (p := x_in l1 6 = true) (fun hz => by rw [if_neg hz] at h; cases h) (fun hc12 => ?_)
  rw [if_pos hc12] at h
  refine q_ald (Or.inl ⟨rfl, rfl⟩) rfl hc12 ?_
  refine q_go 1 (pc' := 101) (ls' := [.ref 0, .int l1, .int l2, .int l3, .int l4, .int l5, .int l6, .int l7, g8]) (st' := [.int l6, .int (V 7 (l1.toNatClampNeg))]) (V' := V) rfl ?_
  by_cases hc13 : (V 7 (l1.toNatClampNeg)) = l6
  · rw [if_pos hc13] at h
    refine q_icmp rfl (fun c => absurd hc13 (of_decide_eq_true c)) (fun _ => ?_)
    refine q_go 4 (pc' := 112) (ls' := [.ref 0, .int l1, .int l2, .int l3, .int l4, .int l5, .int l6, .int l7, g8]) (st' := [.int l1, .ref 8]) (V' := V) rfl ?_
    refine q_ald (Or.inl ⟨rfl, rfl⟩) rfl hc12 ?_
    refine q_go 1 (pc' := 115) (ls' := [.ref 0, .int l1, .int l2, .int l3, .int l4, .int l5, .int l6, .int l7, g8]) (st' := [.int l7, .int (V 8 (l1.toNatClampNeg))]) (V' := V) rfl ?_
    by_cases hc19 : (V 8 (l1.toNatClampNeg)) = l7
    · rw [if_pos hc19] at h
      refine q_icmp rfl (fun c => absurd hc19 (of_decide_eq_true c)) (fun _ => ?_)
      refine q_go 1 (pc' := 120) (ls' := [.ref 0, .int l1, .int l2, .int l3, .int l4, .int l5, .int l6, .int l7, g8]) (st' := [.int (-2 : Int32)]) (V' := V) rfl ?_
      obtain ⟨rfl, rfl⟩ := x_p2 h
      exact q_ret rfl rfl
    · rw [if_neg hc19] at h
      refine q_icmp rfl (fun _ => ?_) (fun c => absurd hc19 (of_decide_eq_false c))
      refine q_go 3 (pc' := 126) (ls' := [.ref 0, .int l1, .int l2, .int l3, .int l4, .int l5, .int l6, .int l7, g8]) (st' := [.int l1, .ref 5]) (V' := V) rfl ?_
      obtain ⟨x22, V21, hc20, h⟩ := x_b2_eq h
      refine q_call (d := (2)) (as := [.ref 5, .int l1]) (pc' := 129) (ls' := [.ref 0, .int l1, .int l2, .int l3, .int l4, .int l5, .int l6, .int l7, g8]) (st' := []) (r1 := some x22) rfl rfl ((f_X4_loanAsNumber_5_ok hc20).up (by decide)) ?_
      refine q_go 2 (pc' := 132) (ls' := [.ref 0, .int l1, .int l2, .int l3, .int l4, .int l5, .int l6, .int l7, .int x22]) (st' := [.ref 0]) (V' := V21) rfl ?_
      obtain ⟨V24, hc23, h⟩ := x_b1_eq h
      refine q_call (d := (2)) (as := [.ref 0]) (pc' := 135) (ls' := [.ref 0, .int l1, .int l2, .int l3, .int l4, .int l5, .int l6, .int l7, .int x22]) (st' := []) (r1 := none) rfl rfl ((f_X6_rememberWishes_ok hc23).up (by decide)) ?_
      refine q_go 5 (pc' := 145) (ls' := [.ref 0, .int l1, .int l2, .int l3, .int l4, .int l5, .int l6, .int l7, .int x22]) (st' := [.int l6, .int l1, .ref 7]) (V' := V24) rfl ?_
      refine q_ast rfl rfl hc12 ?_
      refine q_go 5 (pc' := 156) (ls' := [.ref 0, .int l1, .int l2, .int l3, .int l4, .int l5, .int l6, .int l7, .int x22]) (st' := [.int l7, .int l1, .ref 8]) (V' := (x_up V24 7 (l1.toNatClampNeg) l6)) rfl ?_
      refine q_ast rfl rfl hc12 ?_
      refine q_go 1 (pc' := 159) (ls' := [.ref 0, .int l1, .int l2, .int l3, .int l4, .int l5, .int l6, .int l7, .int x22]) (st' := [.int x22]) (V' := (x_up (x_up V24 7 (l1.toNatClampNeg) l6) 8 (l1.toNatClampNeg) l7)) rfl ?_
      obtain ⟨rfl, rfl⟩ := x_p2 h
      exact q_ret rfl rfl
  · rw [if_neg hc13] at h
    refine q_icmp rfl (fun _ => ?_) (fun c => absurd hc13 (of_decide_eq_false c))
    refine q_go 3 (pc' := 126) (ls' := [.ref 0, .int l1, .int l2, .int l3, .int l4, .int l5, .int l6, .int l7, g8]) (st' := [.int l1, .ref 5]) (V' := V) rfl ?_
    obtain ⟨x16, V15, hc14, h⟩ := x_b2_eq h
    refine q_call (d := (2)) (as := [.ref 5, .int l1]) (pc' := 129) (ls' := [.ref 0, .int l1, .int l2, .int l3, .int l4, .int l5, .int l6, .int l7, g8]) (st' := []) (r1 := some x16) rfl rfl ((f_X4_loanAsNumber_5_ok hc14).up (by decide)) ?_
    refine q_go 2 (pc' := 132) (ls' := [.ref 0, .int l1, .int l2, .int l3, .int l4, .int l5, .int l6, .int l7, .int x16]) (st' := [.ref 0]) (V' := V15) rfl ?_
    obtain ⟨V18, hc17, h⟩ := x_b1_eq h
    refine q_call (d := (2)) (as := [.ref 0]) (pc' := 135) (ls' := [.ref 0, .int l1, .int l2, .int l3, .int l4, .int l5, .int l6, .int l7, .int x16]) (st' := []) (r1 := none) rfl rfl ((f_X6_rememberWishes_ok hc17).up (by decide)) ?_
    refine q_go 5 (pc' := 145) (ls' := [.ref 0, .int l1, .int l2, .int l3, .int l4, .int l5, .int l6, .int l7, .int x16]) (st' := [.int l6, .int l1, .ref 7]) (V' := V18) rfl ?_
    refine q_ast rfl rfl hc12 ?_
    refine q_go 5 (pc' := 156) (ls' := [.ref 0, .int l1, .int l2, .int l3, .int l4, .int l5, .int l6, .int l7, .int x16]) (st' := [.int l7, .int l1, .ref 8]) (V' := (x_up V18 7 (l1.toNatClampNeg) l6)) rfl ?_
    refine q_ast rfl rfl hc12 ?_
    refine q_go 1 (pc' := 159) (ls' := [.ref 0, .int l1, .int l2, .int l3, .int l4, .int l5, .int l6, .int l7, .int x16]) (st' := [.int x16]) (V' := (x_up (x_up V18 7 (l1.toNatClampNeg) l6) 8 (l1.toNatClampNeg) l7)) rfl ?_
    obtain ⟨rfl, rfl⟩ := x_p2 h
    exact q_ret rfl rfl
def f_X6_lends_J77 (l1 : Int32) (l2 : Int32) (l3 : Int32) (l4 : Int32) (l5 : Int32) (l6 : Int32) (V : xV) : Option (Int32 × xV) := if l4 = 0 then (f_X6_lends_J90 l1 l2 l3 l4 l5 l6 l3 V) else (f_X6_lends_J90 l1 l2 l3 l4 l5 l6 (-9 : Int32) V)
theorem f_X6_lends_J77_ok (l1 : Int32) (l2 : Int32) (l3 : Int32) (l4 : Int32) (l5 : Int32) (l6 : Int32) (V : xV) (g7 : Value) (g8 : Value) {x : Int32} {W : xV} (h : f_X6_lends_J77 l1 l2 l3 l4 l5 l6 V = some (x, W)) : x_Ex (3) kX6_lends 77 [.ref 0, .int l1, .int l2, .int l3, .int l4, .int l5, .int l6, g7, g8] [] V (some x) W := by
  unfold f_X6_lends_J77 at h
  refine q_go 1 (pc' := 79) (ls' := [.ref 0, .int l1, .int l2, .int l3, .int l4, .int l5, .int l6, g7, g8]) (st' := [.int l4]) (V' := V) rfl ?_
  by_cases hc11 : l4 = 0
  · rw [if_pos hc11] at h
    refine q_if rfl (fun _ => ?_) (fun c => absurd hc11 (of_decide_eq_false c))
    refine q_go 2 (pc' := 90) (ls' := [.ref 0, .int l1, .int l2, .int l3, .int l4, .int l5, .int l6, .int l3, g8]) (st' := []) (V' := V) rfl ?_
    exact f_X6_lends_J90_ok l1 l2 l3 l4 l5 l6 l3 V g8 h
  · rw [if_neg hc11] at h
    refine q_if rfl (fun c => absurd (of_decide_eq_true c) hc11) (fun _ => ?_)
    refine q_go 3 (pc' := 90) (ls' := [.ref 0, .int l1, .int l2, .int l3, .int l4, .int l5, .int l6, .int (-9 : Int32), g8]) (st' := []) (V' := V) rfl ?_
    exact f_X6_lends_J90_ok l1 l2 l3 l4 l5 l6 (-9 : Int32) V g8 h
def f_X6_lends_J44 (l1 : Int32) (l2 : Int32) (l3 : Int32) (l4 : Int32) (l5 : Int32) (V : xV) : Option (Int32 × xV) := x_b2 (f_X6_isThing l1 V) (fun x8 V7 => if x8 = 0 then (some ((-1 : Int32), V7)) else (if l4 = 0 then (if l5 = 0 then (some ((-1 : Int32), V7)) else (f_X6_lends_J77 l1 l2 l3 l4 l5 l2 V7)) else (f_X6_lends_J77 l1 l2 l3 l4 l5 (-9 : Int32) V7)))
theorem f_X6_lends_J44_ok (l1 : Int32) (l2 : Int32) (l3 : Int32) (l4 : Int32) (l5 : Int32) (V : xV) (g6 : Value) (g7 : Value) (g8 : Value) {x : Int32} {W : xV} (h : f_X6_lends_J44 l1 l2 l3 l4 l5 V = some (x, W)) : x_Ex (3) kX6_lends 44 [.ref 0, .int l1, .int l2, .int l3, .int l4, .int l5, g6, g7, g8] [] V (some x) W := by
  unfold f_X6_lends_J44 at h
  refine q_go 2 (pc' := 46) (ls' := [.ref 0, .int l1, .int l2, .int l3, .int l4, .int l5, g6, g7, g8]) (st' := [.int l1, .ref 0]) (V' := V) rfl ?_
  obtain ⟨x8, V7, hc6, h⟩ := x_b2_eq h
  refine q_call (d := (2)) (as := [.ref 0, .int l1]) (pc' := 49) (ls' := [.ref 0, .int l1, .int l2, .int l3, .int l4, .int l5, g6, g7, g8]) (st' := []) (r1 := some x8) rfl rfl ((f_X6_isThing_ok hc6).up (by decide)) ?_
  by_cases hc9 : x8 = 0
  · rw [if_pos hc9] at h
    refine q_if rfl (fun _ => ?_) (fun c => absurd hc9 (of_decide_eq_false c))
    refine q_go 1 (pc' := 63) (ls' := [.ref 0, .int l1, .int l2, .int l3, .int l4, .int l5, g6, g7, g8]) (st' := [.int (-1 : Int32)]) (V' := V7) rfl ?_
    obtain ⟨rfl, rfl⟩ := x_p2 h
    exact q_ret rfl rfl
  · rw [if_neg hc9] at h
    refine q_if rfl (fun c => absurd (of_decide_eq_true c) hc9) (fun _ => ?_)
    refine q_go 1 (pc' := 54) (ls' := [.ref 0, .int l1, .int l2, .int l3, .int l4, .int l5, g6, g7, g8]) (st' := [.int l4]) (V' := V7) rfl ?_
    by_cases hc10 : l4 = 0
    · rw [if_pos hc10] at h
      refine q_if rfl (fun c => absurd hc10 (of_decide_eq_true c)) (fun _ => ?_)
      refine q_go 1 (pc' := 59) (ls' := [.ref 0, .int l1, .int l2, .int l3, .int l4, .int l5, g6, g7, g8]) (st' := [.int l5]) (V' := V7) rfl ?_
      by_cases hc25 : l5 = 0
      · rw [if_pos hc25] at h
        refine q_if rfl (fun c => absurd hc25 (of_decide_eq_true c)) (fun _ => ?_)
        refine q_go 1 (pc' := 63) (ls' := [.ref 0, .int l1, .int l2, .int l3, .int l4, .int l5, g6, g7, g8]) (st' := [.int (-1 : Int32)]) (V' := V7) rfl ?_
        obtain ⟨rfl, rfl⟩ := x_p2 h
        exact q_ret rfl rfl
      · rw [if_neg hc25] at h
        refine q_if rfl (fun _ => ?_) (fun c => absurd hc25 (of_decide_eq_false c))
        refine q_go 1 (pc' := 66) (ls' := [.ref 0, .int l1, .int l2, .int l3, .int l4, .int l5, g6, g7, g8]) (st' := [.int l4]) (V' := V7) rfl ?_
        refine q_if rfl (fun _ => ?_) (fun c => absurd hc10 (of_decide_eq_false c))
        refine q_go 2 (pc' := 77) (ls' := [.ref 0, .int l1, .int l2, .int l3, .int l4, .int l5, .int l2, g7, g8]) (st' := []) (V' := V7) rfl ?_
        exact f_X6_lends_J77_ok l1 l2 l3 l4 l5 l2 V7 g7 g8 h
    · rw [if_neg hc10] at h
      refine q_if rfl (fun _ => ?_) (fun c => absurd hc10 (of_decide_eq_false c))
      refine q_go 1 (pc' := 66) (ls' := [.ref 0, .int l1, .int l2, .int l3, .int l4, .int l5, g6, g7, g8]) (st' := [.int l4]) (V' := V7) rfl ?_
      refine q_if rfl (fun c => absurd (of_decide_eq_true c) hc10) (fun _ => ?_)
      refine q_go 3 (pc' := 77) (ls' := [.ref 0, .int l1, .int l2, .int l3, .int l4, .int l5, .int (-9 : Int32), g7, g8]) (st' := []) (V' := V7) rfl ?_
      exact f_X6_lends_J77_ok l1 l2 l3 l4 l5 (-9 : Int32) V7 g7 g8 h
def f_X6_lends_J16 (l1 : Int32) (l2 : Int32) (l3 : Int32) (l4 : Int32) (V : xV) : Option (Int32 × xV) := x_b2 (f_X6_isSeason l2 V) (fun x4 V3 => if x4 = 0 then (f_X6_lends_J44 l1 l2 l3 l4 (0 : Int32) V3) else (x_b2 (f_X6_isSeason l3 V3) (fun x28 V27 => if x28 = 0 then (f_X6_lends_J44 l1 l2 l3 l4 (0 : Int32) V27) else (if l3 < l2 then (f_X6_lends_J44 l1 l2 l3 l4 (0 : Int32) V27) else (f_X6_lends_J44 l1 l2 l3 l4 (1 : Int32) V27)))))
theorem f_X6_lends_J16_ok (l1 : Int32) (l2 : Int32) (l3 : Int32) (l4 : Int32) (V : xV) (g5 : Value) (g6 : Value) (g7 : Value) (g8 : Value) {x : Int32} {W : xV} (h : f_X6_lends_J16 l1 l2 l3 l4 V = some (x, W)) : x_Ex (3) kX6_lends 16 [.ref 0, .int l1, .int l2, .int l3, .int l4, g5, g6, g7, g8] [] V (some x) W := by
  unfold f_X6_lends_J16 at h
  refine q_go 2 (pc' := 18) (ls' := [.ref 0, .int l1, .int l2, .int l3, .int l4, g5, g6, g7, g8]) (st' := [.int l2, .ref 0]) (V' := V) rfl ?_
  obtain ⟨x4, V3, hc2, h⟩ := x_b2_eq h
  refine q_call (d := (2)) (as := [.ref 0, .int l2]) (pc' := 21) (ls' := [.ref 0, .int l1, .int l2, .int l3, .int l4, g5, g6, g7, g8]) (st' := []) (r1 := some x4) rfl rfl ((f_X6_isSeason_ok hc2).up (by decide)) ?_
  by_cases hc5 : x4 = 0
  · rw [if_pos hc5] at h
    refine q_if rfl (fun _ => ?_) (fun c => absurd hc5 (of_decide_eq_false c))
    refine q_go 2 (pc' := 44) (ls' := [.ref 0, .int l1, .int l2, .int l3, .int l4, .int (0 : Int32), g6, g7, g8]) (st' := []) (V' := V3) rfl ?_
    exact f_X6_lends_J44_ok l1 l2 l3 l4 (0 : Int32) V3 g6 g7 g8 h
  · rw [if_neg hc5] at h
    refine q_if rfl (fun c => absurd (of_decide_eq_true c) hc5) (fun _ => ?_)
    refine q_go 2 (pc' := 26) (ls' := [.ref 0, .int l1, .int l2, .int l3, .int l4, g5, g6, g7, g8]) (st' := [.int l3, .ref 0]) (V' := V3) rfl ?_
    obtain ⟨x28, V27, hc26, h⟩ := x_b2_eq h
    refine q_call (d := (2)) (as := [.ref 0, .int l3]) (pc' := 29) (ls' := [.ref 0, .int l1, .int l2, .int l3, .int l4, g5, g6, g7, g8]) (st' := []) (r1 := some x28) rfl rfl ((f_X6_isSeason_ok hc26).up (by decide)) ?_
    by_cases hc29 : x28 = 0
    · rw [if_pos hc29] at h
      refine q_if rfl (fun _ => ?_) (fun c => absurd hc29 (of_decide_eq_false c))
      refine q_go 2 (pc' := 44) (ls' := [.ref 0, .int l1, .int l2, .int l3, .int l4, .int (0 : Int32), g6, g7, g8]) (st' := []) (V' := V27) rfl ?_
      exact f_X6_lends_J44_ok l1 l2 l3 l4 (0 : Int32) V27 g6 g7 g8 h
    · rw [if_neg hc29] at h
      refine q_if rfl (fun c => absurd (of_decide_eq_true c) hc29) (fun _ => ?_)
      refine q_go 2 (pc' := 34) (ls' := [.ref 0, .int l1, .int l2, .int l3, .int l4, g5, g6, g7, g8]) (st' := [.int l3, .int l2]) (V' := V27) rfl ?_
      by_cases hc30 : l3 < l2
      · rw [if_pos hc30] at h
        refine q_icmp rfl (fun _ => ?_) (fun c => absurd hc30 (of_decide_eq_false c))
        refine q_go 2 (pc' := 44) (ls' := [.ref 0, .int l1, .int l2, .int l3, .int l4, .int (0 : Int32), g6, g7, g8]) (st' := []) (V' := V27) rfl ?_
        exact f_X6_lends_J44_ok l1 l2 l3 l4 (0 : Int32) V27 g6 g7 g8 h
      · rw [if_neg hc30] at h
        refine q_icmp rfl (fun c => absurd (of_decide_eq_true c) hc30) (fun _ => ?_)
        refine q_go 3 (pc' := 44) (ls' := [.ref 0, .int l1, .int l2, .int l3, .int l4, .int (1 : Int32), g6, g7, g8]) (st' := []) (V' := V27) rfl ?_
        exact f_X6_lends_J44_ok l1 l2 l3 l4 (1 : Int32) V27 g6 g7 g8 h
def f_X6_lends (a0 : Int32) (a1 : Int32) (a2 : Int32) (V : xV) : Option (Int32 × xV) := if a1 = (4 : Int32) then (if a2 = 0 then (f_X6_lends_J16 a0 a1 a2 (1 : Int32) V) else (f_X6_lends_J16 a0 a1 a2 (0 : Int32) V)) else (f_X6_lends_J16 a0 a1 a2 (0 : Int32) V)
theorem f_X6_lends_ok {a0 : Int32} {a1 : Int32} {a2 : Int32} {V W : xV} {x : Int32} (h : f_X6_lends a0 a1 a2 V = some (x, W)) : x_Rn (3) 74 [.ref 0, .int a0, .int a1, .int a2] V (some x) W := by
  refine ⟨9, kX6_lends, rfl, ?_⟩
  show x_Ex (3) kX6_lends 0 [.ref 0, .int a0, .int a1, .int a2, .long 0, .long 0, .long 0, .long 0, .long 0] [] V (some x) W
  unfold f_X6_lends at h
  refine q_go 2 (pc' := 2) (ls' := [.ref 0, .int a0, .int a1, .int a2, .long 0, .long 0, .long 0, .long 0, .long 0]) (st' := [.int (4 : Int32), .int a1]) (V' := V) rfl ?_
  by_cases hc1 : a1 = (4 : Int32)
  · rw [if_pos hc1] at h
    refine q_icmp rfl (fun c => absurd hc1 (of_decide_eq_true c)) (fun _ => ?_)
    refine q_go 1 (pc' := 6) (ls' := [.ref 0, .int a0, .int a1, .int a2, .long 0, .long 0, .long 0, .long 0, .long 0]) (st' := [.int a2]) (V' := V) rfl ?_
    by_cases hc31 : a2 = 0
    · rw [if_pos hc31] at h
      refine q_if rfl (fun c => absurd hc31 (of_decide_eq_true c)) (fun _ => ?_)
      refine q_go 3 (pc' := 16) (ls' := [.ref 0, .int a0, .int a1, .int a2, .int (1 : Int32), .long 0, .long 0, .long 0, .long 0]) (st' := []) (V' := V) rfl ?_
      exact f_X6_lends_J16_ok a0 a1 a2 (1 : Int32) V (.long 0) (.long 0) (.long 0) (.long 0) h
    · rw [if_neg hc31] at h
      refine q_if rfl (fun _ => ?_) (fun c => absurd hc31 (of_decide_eq_false c))
      refine q_go 2 (pc' := 16) (ls' := [.ref 0, .int a0, .int a1, .int a2, .int (0 : Int32), .long 0, .long 0, .long 0, .long 0]) (st' := []) (V' := V) rfl ?_
      exact f_X6_lends_J16_ok a0 a1 a2 (0 : Int32) V (.long 0) (.long 0) (.long 0) (.long 0) h
  · rw [if_neg hc1] at h
    refine q_icmp rfl (fun _ => ?_) (fun c => absurd hc1 (of_decide_eq_false c))
    refine q_go 2 (pc' := 16) (ls' := [.ref 0, .int a0, .int a1, .int a2, .int (0 : Int32), .long 0, .long 0, .long 0, .long 0]) (st' := []) (V' := V) rfl ?_
    exact f_X6_lends_J16_ok a0 a1 a2 (0 : Int32) V (.long 0) (.long 0) (.long 0) (.long 0) h
def f_X4_turnPair_5 (a0 : Int32) (a1 : Int32) (V : xV) : Option (xV) := if x_in a0 6 = true then (if x_in a1 6 = true then (some (x_up (x_up V 9 (a0.toNatClampNeg) ((V 9 (a0.toNatClampNeg)) ^^^ ((1 : Int32) <<< (a1 &&& 31)))) 9 (a1.toNatClampNeg) (((x_up V 9 (a0.toNatClampNeg) ((V 9 (a0.toNatClampNeg)) ^^^ ((1 : Int32) <<< (a1 &&& 31)))) 9 (a1.toNatClampNeg)) ^^^ ((1 : Int32) <<< (a0 &&& 31))))) else none) else none
theorem f_X4_turnPair_5_ok {a0 : Int32} {a1 : Int32} {V W : xV}  (h : f_X4_turnPair_5 a0 a1 V = some W) : x_Rn (0) 51 [.ref 5, .int a0, .int a1] V none W := by
  refine ⟨3, kX4_turnPair, rfl, ?_⟩
  show x_Ex (0) kX4_turnPair 0 [.ref 5, .int a0, .int a1] [] V none W
  unfold f_X4_turnPair_5 at h
  refine q_go 4 (pc' := 6) (ls' := [.ref 5, .int a0, .int a1]) (st' := [.int a0, .ref 9, .int a0, .ref 9]) (V' := V) rfl ?_
  refine x_em (p := x_in a0 6 = true) (fun hz => by rw [if_neg hz] at h; cases h) (fun hc1 => ?_)
  rw [if_pos hc1] at h
  refine q_ald (Or.inl ⟨rfl, rfl⟩) rfl hc1 ?_
  refine q_go 4 (pc' := 11) (ls' := [.ref 5, .int a0, .int a1]) (st' := [.int ((V 9 (a0.toNatClampNeg)) ^^^ ((1 : Int32) <<< (a1 &&& 31))), .int a0, .ref 9]) (V' := V) rfl ?_
  refine q_ast rfl rfl hc1 ?_
  refine q_go 4 (pc' := 18) (ls' := [.ref 5, .int a0, .int a1]) (st' := [.int a1, .ref 9, .int a1, .ref 9]) (V' := (x_up V 9 (a0.toNatClampNeg) ((V 9 (a0.toNatClampNeg)) ^^^ ((1 : Int32) <<< (a1 &&& 31))))) rfl ?_
  refine x_em (p := x_in a1 6 = true) (fun hz => by rw [if_neg hz] at h; cases h) (fun hc2 => ?_)
  rw [if_pos hc2] at h
  refine q_ald (Or.inl ⟨rfl, rfl⟩) rfl hc2 ?_
  refine q_go 4 (pc' := 23) (ls' := [.ref 5, .int a0, .int a1]) (st' := [.int (((x_up V 9 (a0.toNatClampNeg) ((V 9 (a0.toNatClampNeg)) ^^^ ((1 : Int32) <<< (a1 &&& 31)))) 9 (a1.toNatClampNeg)) ^^^ ((1 : Int32) <<< (a0 &&& 31))), .int a1, .ref 9]) (V' := (x_up V 9 (a0.toNatClampNeg) ((V 9 (a0.toNatClampNeg)) ^^^ ((1 : Int32) <<< (a1 &&& 31))))) rfl ?_
  refine q_ast rfl rfl hc2 ?_
  obtain rfl := Option.some.inj h
  exact q_ret rfl rfl
def f_X4_isBarred_5 (a0 : Int32) (a1 : Int32) (V : xV) : Option (Int32 × xV) := if x_in a0 6 = true then (if (((V 9 (a0.toNatClampNeg)) >>> (a1 &&& 31)) &&& 1) = (1 : Int32) then (some ((1 : Int32), V)) else (some ((0 : Int32), V))) else none
theorem f_X4_isBarred_5_ok {a0 : Int32} {a1 : Int32} {V W : xV} {x : Int32} (h : f_X4_isBarred_5 a0 a1 V = some (x, W)) : x_Rn (0) 50 [.ref 5, .int a0, .int a1] V (some x) W := by
  refine ⟨3, kX4_isBarred, rfl, ?_⟩
  show x_Ex (0) kX4_isBarred 0 [.ref 5, .int a0, .int a1] [] V (some x) W
  unfold f_X4_isBarred_5 at h
  refine q_go 3 (pc' := 5) (ls' := [.ref 5, .int a0, .int a1]) (st' := [.int a0, .ref 9]) (V' := V) rfl ?_
  refine x_em (p := x_in a0 6 = true) (fun hz => by rw [if_neg hz] at h; cases h) (fun hc1 => ?_)
  rw [if_pos hc1] at h
  refine q_ald (Or.inl ⟨rfl, rfl⟩) rfl hc1 ?_
  refine q_go 5 (pc' := 11) (ls' := [.ref 5, .int a0, .int a1]) (st' := [.int (1 : Int32), .int (((V 9 (a0.toNatClampNeg)) >>> (a1 &&& 31)) &&& 1)]) (V' := V) rfl ?_
  by_cases hc2 : (((V 9 (a0.toNatClampNeg)) >>> (a1 &&& 31)) &&& 1) = (1 : Int32)
  · rw [if_pos hc2] at h
    refine q_icmp rfl (fun c => absurd hc2 (of_decide_eq_true c)) (fun _ => ?_)
    refine q_go 2 (pc' := 19) (ls' := [.ref 5, .int a0, .int a1]) (st' := [.int (1 : Int32)]) (V' := V) rfl ?_
    obtain ⟨rfl, rfl⟩ := x_p2 h
    exact q_ret rfl rfl
  · rw [if_neg hc2] at h
    refine q_icmp rfl (fun _ => ?_) (fun c => absurd hc2 (of_decide_eq_false c))
    refine q_go 1 (pc' := 19) (ls' := [.ref 5, .int a0, .int a1]) (st' := [.int (0 : Int32)]) (V' := V) rfl ?_
    obtain ⟨rfl, rfl⟩ := x_p2 h
    exact q_ret rfl rfl
def f_X6_pairs (a0 : Int32) (a1 : Int32) (V : xV) : Option (Int32 × xV) := x_b2 (f_X6_isThing a0 V) (fun x3 V2 => if x3 = 0 then (some ((-1 : Int32), V2)) else (x_b2 (f_X6_isThing a1 V2) (fun x7 V6 => if x7 = 0 then (some ((-1 : Int32), V6)) else (if a0 = a1 then (some ((-1 : Int32), V6)) else (x_b1 (f_X6_rememberWishes V6) (fun V11 => x_b1 (f_X4_turnPair_5 a0 a1 V11) (fun V13 => x_b2 (f_X4_isBarred_5 a0 a1 V13) (fun x16 V15 => if x16 = 0 then (some ((0 : Int32), V15)) else (some ((1 : Int32), V15))))))))))
theorem f_X6_pairs_ok {a0 : Int32} {a1 : Int32} {V W : xV} {x : Int32} (h : f_X6_pairs a0 a1 V = some (x, W)) : x_Rn (3) 75 [.ref 0, .int a0, .int a1] V (some x) W := by
  refine ⟨3, kX6_pairs, rfl, ?_⟩
  show x_Ex (3) kX6_pairs 0 [.ref 0, .int a0, .int a1] [] V (some x) W
  unfold f_X6_pairs at h
  refine q_go 2 (pc' := 2) (ls' := [.ref 0, .int a0, .int a1]) (st' := [.int a0, .ref 0]) (V' := V) rfl ?_
  obtain ⟨x3, V2, hc1, h⟩ := x_b2_eq h
  refine q_call (d := (2)) (as := [.ref 0, .int a0]) (pc' := 5) (ls' := [.ref 0, .int a0, .int a1]) (st' := []) (r1 := some x3) rfl rfl ((f_X6_isThing_ok hc1).up (by decide)) ?_
  by_cases hc4 : x3 = 0
  · rw [if_pos hc4] at h
    refine q_if rfl (fun _ => ?_) (fun c => absurd hc4 (of_decide_eq_false c))
    refine q_go 1 (pc' := 22) (ls' := [.ref 0, .int a0, .int a1]) (st' := [.int (-1 : Int32)]) (V' := V2) rfl ?_
    obtain ⟨rfl, rfl⟩ := x_p2 h
    exact q_ret rfl rfl
  · rw [if_neg hc4] at h
    refine q_if rfl (fun c => absurd (of_decide_eq_true c) hc4) (fun _ => ?_)
    refine q_go 2 (pc' := 10) (ls' := [.ref 0, .int a0, .int a1]) (st' := [.int a1, .ref 0]) (V' := V2) rfl ?_
    obtain ⟨x7, V6, hc5, h⟩ := x_b2_eq h
    refine q_call (d := (2)) (as := [.ref 0, .int a1]) (pc' := 13) (ls' := [.ref 0, .int a0, .int a1]) (st' := []) (r1 := some x7) rfl rfl ((f_X6_isThing_ok hc5).up (by decide)) ?_
    by_cases hc8 : x7 = 0
    · rw [if_pos hc8] at h
      refine q_if rfl (fun _ => ?_) (fun c => absurd hc8 (of_decide_eq_false c))
      refine q_go 1 (pc' := 22) (ls' := [.ref 0, .int a0, .int a1]) (st' := [.int (-1 : Int32)]) (V' := V6) rfl ?_
      obtain ⟨rfl, rfl⟩ := x_p2 h
      exact q_ret rfl rfl
    · rw [if_neg hc8] at h
      refine q_if rfl (fun c => absurd (of_decide_eq_true c) hc8) (fun _ => ?_)
      refine q_go 2 (pc' := 18) (ls' := [.ref 0, .int a0, .int a1]) (st' := [.int a1, .int a0]) (V' := V6) rfl ?_
      by_cases hc9 : a0 = a1
      · rw [if_pos hc9] at h
        refine q_icmp rfl (fun c => absurd hc9 (of_decide_eq_true c)) (fun _ => ?_)
        refine q_go 1 (pc' := 22) (ls' := [.ref 0, .int a0, .int a1]) (st' := [.int (-1 : Int32)]) (V' := V6) rfl ?_
        obtain ⟨rfl, rfl⟩ := x_p2 h
        exact q_ret rfl rfl
      · rw [if_neg hc9] at h
        refine q_icmp rfl (fun _ => ?_) (fun c => absurd hc9 (of_decide_eq_false c))
        refine q_go 1 (pc' := 24) (ls' := [.ref 0, .int a0, .int a1]) (st' := [.ref 0]) (V' := V6) rfl ?_
        obtain ⟨V11, hc10, h⟩ := x_b1_eq h
        refine q_call (d := (2)) (as := [.ref 0]) (pc' := 27) (ls' := [.ref 0, .int a0, .int a1]) (st' := []) (r1 := none) rfl rfl ((f_X6_rememberWishes_ok hc10).up (by decide)) ?_
        refine q_go 4 (pc' := 33) (ls' := [.ref 0, .int a0, .int a1]) (st' := [.int a1, .int a0, .ref 5]) (V' := V11) rfl ?_
        obtain ⟨V13, hc12, h⟩ := x_b1_eq h
        refine q_call (d := (2)) (as := [.ref 5, .int a0, .int a1]) (pc' := 36) (ls' := [.ref 0, .int a0, .int a1]) (st' := []) (r1 := none) rfl rfl ((f_X4_turnPair_5_ok hc12).up (by decide)) ?_
        refine q_go 4 (pc' := 42) (ls' := [.ref 0, .int a0, .int a1]) (st' := [.int a1, .int a0, .ref 5]) (V' := V13) rfl ?_
        obtain ⟨x16, V15, hc14, h⟩ := x_b2_eq h
        refine q_call (d := (2)) (as := [.ref 5, .int a0, .int a1]) (pc' := 45) (ls' := [.ref 0, .int a0, .int a1]) (st' := []) (r1 := some x16) rfl rfl ((f_X4_isBarred_5_ok hc14).up (by decide)) ?_
        by_cases hc17 : x16 = 0
        · rw [if_pos hc17] at h
          refine q_if rfl (fun _ => ?_) (fun c => absurd hc17 (of_decide_eq_false c))
          refine q_go 1 (pc' := 53) (ls' := [.ref 0, .int a0, .int a1]) (st' := [.int (0 : Int32)]) (V' := V15) rfl ?_
          obtain ⟨rfl, rfl⟩ := x_p2 h
          exact q_ret rfl rfl
        · rw [if_neg hc17] at h
          refine q_if rfl (fun c => absurd (of_decide_eq_true c) hc17) (fun _ => ?_)
          refine q_go 2 (pc' := 53) (ls' := [.ref 0, .int a0, .int a1]) (st' := [.int (1 : Int32)]) (V' := V15) rfl ?_
          obtain ⟨rfl, rfl⟩ := x_p2 h
          exact q_ret rfl rfl
def f_X6_rules (a0 : Int32) (V : xV) : Option (Int32 × xV) := if a0 < 0 then (some ((-1 : Int32), V)) else (if a0 < (4 : Int32) then (x_b1 (f_X6_rememberWishes V) (fun V4 => x_b2 (f_X4_isOn_5 a0 (x_up V4 5 4 ((V4 5 4) ^^^ ((1 : Int32) <<< (a0 &&& 31))))) (fun x7 V6 => if x7 = 0 then (some ((0 : Int32), V6)) else (some ((1 : Int32), V6))))) else (some ((-1 : Int32), V)))
theorem f_X6_rules_ok {a0 : Int32} {V W : xV} {x : Int32} (h : f_X6_rules a0 V = some (x, W)) : x_Rn (3) 76 [.ref 0, .int a0] V (some x) W := by
  refine ⟨2, kX6_rules, rfl, ?_⟩
  show x_Ex (3) kX6_rules 0 [.ref 0, .int a0] [] V (some x) W
  unfold f_X6_rules at h
  refine q_go 1 (pc' := 1) (ls' := [.ref 0, .int a0]) (st' := [.int a0]) (V' := V) rfl ?_
  by_cases hc1 : a0 < 0
  · rw [if_pos hc1] at h
    refine q_if rfl (fun _ => ?_) (fun c => absurd hc1 (of_decide_eq_false c))
    refine q_go 1 (pc' := 10) (ls' := [.ref 0, .int a0]) (st' := [.int (-1 : Int32)]) (V' := V) rfl ?_
    obtain ⟨rfl, rfl⟩ := x_p2 h
    exact q_ret rfl rfl
  · rw [if_neg hc1] at h
    refine q_if rfl (fun c => absurd (of_decide_eq_true c) hc1) (fun _ => ?_)
    refine q_go 2 (pc' := 6) (ls' := [.ref 0, .int a0]) (st' := [.int (4 : Int32), .int a0]) (V' := V) rfl ?_
    by_cases hc2 : a0 < (4 : Int32)
    · rw [if_pos hc2] at h
      refine q_icmp rfl (fun _ => ?_) (fun c => absurd hc2 (of_decide_eq_false c))
      refine q_go 1 (pc' := 12) (ls' := [.ref 0, .int a0]) (st' := [.ref 0]) (V' := V) rfl ?_
      obtain ⟨V4, hc3, h⟩ := x_b1_eq h
      refine q_call (d := (2)) (as := [.ref 0]) (pc' := 15) (ls' := [.ref 0, .int a0]) (st' := []) (r1 := none) rfl rfl ((f_X6_rememberWishes_ok hc3).up (by decide)) ?_
      refine q_go 12 (pc' := 35) (ls' := [.ref 0, .int a0]) (st' := [.int a0, .ref 5]) (V' := (x_up V4 5 4 ((V4 5 4) ^^^ ((1 : Int32) <<< (a0 &&& 31))))) rfl ?_
      obtain ⟨x7, V6, hc5, h⟩ := x_b2_eq h
      refine q_call (d := (2)) (as := [.ref 5, .int a0]) (pc' := 38) (ls' := [.ref 0, .int a0]) (st' := []) (r1 := some x7) rfl rfl ((f_X4_isOn_5_ok hc5).up (by decide)) ?_
      by_cases hc8 : x7 = 0
      · rw [if_pos hc8] at h
        refine q_if rfl (fun _ => ?_) (fun c => absurd hc8 (of_decide_eq_false c))
        refine q_go 1 (pc' := 46) (ls' := [.ref 0, .int a0]) (st' := [.int (0 : Int32)]) (V' := V6) rfl ?_
        obtain ⟨rfl, rfl⟩ := x_p2 h
        exact q_ret rfl rfl
      · rw [if_neg hc8] at h
        refine q_if rfl (fun c => absurd (of_decide_eq_true c) hc8) (fun _ => ?_)
        refine q_go 2 (pc' := 46) (ls' := [.ref 0, .int a0]) (st' := [.int (1 : Int32)]) (V' := V6) rfl ?_
        obtain ⟨rfl, rfl⟩ := x_p2 h
        exact q_ret rfl rfl
    · rw [if_neg hc2] at h
      refine q_icmp rfl (fun c => absurd (of_decide_eq_true c) hc2) (fun _ => ?_)
      refine q_go 1 (pc' := 10) (ls' := [.ref 0, .int a0]) (st' := [.int (-1 : Int32)]) (V' := V) rfl ?_
      obtain ⟨rfl, rfl⟩ := x_p2 h
      exact q_ret rfl rfl
def f_X0_known (V : xV) : Option (Int32 × xV) := some ((V 19 2), V)
theorem f_X0_known_ok {V W : xV} {x : Int32} (h : f_X0_known V = some (x, W)) : x_Rn (0) 1 [.ref 19] V (some x) W := by
  refine ⟨1, kX0_known, rfl, ?_⟩
  show x_Ex (0) kX0_known 0 [.ref 19] [] V (some x) W
  unfold f_X0_known at h
  refine q_go 2 (pc' := 4) (ls' := [.ref 19]) (st' := [.int (V 19 2)]) (V' := V) rfl ?_
  obtain ⟨rfl, rfl⟩ := x_p2 h
  exact q_ret rfl rfl
def f_X0_restore (V : xV) : Option (xV) := if (V 19 2) ≤ 0 then (some V) else (if x_in ((((V 19 1) + 10) - 1) - (((V 19 1) + 10) - 1) / (10 : Int32) * (10 : Int32)) 10 = true then (x_b1 (x_tkW 5 (21 + 5 * (((((V 19 1) + 10) - 1) - (((V 19 1) + 10) - 1) / (10 : Int32) * (10 : Int32)).toNatClampNeg)) (x_up (x_up V 19 1 ((((V 19 1) + 10) - 1) - (((V 19 1) + 10) - 1) / (10 : Int32) * (10 : Int32))) 19 2 ((V 19 2) - 1))) (fun V4 => some V4)) else none)
theorem f_X0_restore_ok {V W : xV}  (h : f_X0_restore V = some W) : x_Rn (1) 4 [.ref 19, .ref 5] V none W := by
  refine ⟨2, kX0_restore, rfl, ?_⟩
  show x_Ex (1) kX0_restore 0 [.ref 19, .ref 5] [] V none W
  unfold f_X0_restore at h
  refine q_go 2 (pc' := 4) (ls' := [.ref 19, .ref 5]) (st' := [.int (V 19 2)]) (V' := V) rfl ?_
  by_cases hc1 : (V 19 2) ≤ 0
  · rw [if_pos hc1] at h
    refine q_if rfl (fun _ => ?_) (fun c => absurd hc1 (of_decide_eq_false c))
    obtain rfl := Option.some.inj h
    exact q_ret rfl rfl
  · rw [if_neg hc1] at h
    refine q_if rfl (fun c => absurd (of_decide_eq_true c) hc1) (fun _ => ?_)
    refine q_go 21 (pc' := 42) (ls' := [.ref 19, .ref 5]) (st' := [.int ((((V 19 1) + 10) - 1) - (((V 19 1) + 10) - 1) / (10 : Int32) * (10 : Int32)), .ref 20, .ref 5]) (V' := (x_up (x_up V 19 1 ((((V 19 1) + 10) - 1) - (((V 19 1) + 10) - 1) / (10 : Int32) * (10 : Int32))) 19 2 ((V 19 2) - 1))) rfl ?_
    refine x_em (p := x_in ((((V 19 1) + 10) - 1) - (((V 19 1) + 10) - 1) / (10 : Int32) * (10 : Int32)) 10 = true) (fun hz => by rw [if_neg hz] at h; cases h) (fun hc2 => ?_)
    rw [if_pos hc2] at h
    refine q_aald rfl rfl hc2 (x_aref20 hc2) ?_
    obtain ⟨V4, hc3, h⟩ := x_b1_eq h
    refine q_call (d := (0)) (as := [.ref 5, .ref (21 + 5 * (((((V 19 1) + 10) - 1) - (((V 19 1) + 10) - 1) / (10 : Int32) * (10 : Int32)).toNatClampNeg))]) (pc' := 46) (ls' := [.ref 19, .ref 5]) (st' := []) (r1 := none) rfl rfl ((x_tkW_ok (by unfold x_isW; decide) (x_isW20 hc2) hc3).up (by decide)) ?_
    obtain rfl := Option.some.inj h
    exact q_ret rfl rfl
def f_X6_undo (V : xV) : Option (Int32 × xV) := x_b2 (f_X0_known V) (fun x3 V2 => if x3 = 0 then (some ((-2 : Int32), V2)) else (x_b1 (f_X0_restore V2) (fun V6 => x_b1 (f_X5_growStale V6) (fun V8 => x_b2 (f_X0_known V8) (fun x11 V10 => some (x11, V10))))))
theorem f_X6_undo_ok {V W : xV} {x : Int32} (h : f_X6_undo V = some (x, W)) : x_Rn (2) 77 [.ref 0] V (some x) W := by
  refine ⟨1, kX6_undo, rfl, ?_⟩
  show x_Ex (2) kX6_undo 0 [.ref 0] [] V (some x) W
  unfold f_X6_undo at h
  refine q_go 2 (pc' := 4) (ls' := [.ref 0]) (st' := [.ref 19]) (V' := V) rfl ?_
  obtain ⟨x3, V2, hc1, h⟩ := x_b2_eq h
  refine q_call (d := (1)) (as := [.ref 19]) (pc' := 7) (ls' := [.ref 0]) (st' := []) (r1 := some x3) rfl rfl ((f_X0_known_ok hc1).up (by decide)) ?_
  by_cases hc4 : x3 = 0
  · rw [if_pos hc4] at h
    refine q_if rfl (fun c => absurd hc4 (of_decide_eq_true c)) (fun _ => ?_)
    refine q_go 1 (pc' := 12) (ls' := [.ref 0]) (st' := [.int (-2 : Int32)]) (V' := V2) rfl ?_
    obtain ⟨rfl, rfl⟩ := x_p2 h
    exact q_ret rfl rfl
  · rw [if_neg hc4] at h
    refine q_if rfl (fun _ => ?_) (fun c => absurd hc4 (of_decide_eq_false c))
    refine q_go 4 (pc' := 21) (ls' := [.ref 0]) (st' := [.ref 5, .ref 19]) (V' := V2) rfl ?_
    obtain ⟨V6, hc5, h⟩ := x_b1_eq h
    refine q_call (d := (1)) (as := [.ref 19, .ref 5]) (pc' := 24) (ls' := [.ref 0]) (st' := []) (r1 := none) rfl rfl ((f_X0_restore_ok hc5).up (by decide)) ?_
    refine q_go 2 (pc' := 28) (ls' := [.ref 0]) (st' := [.ref 73]) (V' := V6) rfl ?_
    obtain ⟨V8, hc7, h⟩ := x_b1_eq h
    refine q_call (d := (1)) (as := [.ref 73]) (pc' := 31) (ls' := [.ref 0]) (st' := []) (r1 := none) rfl rfl ((f_X5_growStale_ok hc7).up (by decide)) ?_
    refine q_go 2 (pc' := 35) (ls' := [.ref 0]) (st' := [.ref 19]) (V' := V8) rfl ?_
    obtain ⟨x11, V10, hc9, h⟩ := x_b2_eq h
    refine q_call (d := (1)) (as := [.ref 19]) (pc' := 38) (ls' := [.ref 0]) (st' := []) (r1 := some x11) rfl rfl ((f_X0_known_ok hc9).up (by decide)) ?_
    obtain ⟨rfl, rfl⟩ := x_p2 h
    exact q_ret rfl rfl
def f_X5_hasPlan (V : xV) : Option (Int32 × xV) := x_b2 (f_X5_changesNow V) (fun x3 V2 => if x3 = (-9 : Int32) then (some ((0 : Int32), V2)) else (some ((1 : Int32), V2)))
theorem f_X5_hasPlan_ok {V W : xV} {x : Int32} (h : f_X5_hasPlan V = some (x, W)) : x_Rn (29) 56 [.ref 73] V (some x) W := by
  refine ⟨1, kX5_hasPlan, rfl, ?_⟩
  show x_Ex (29) kX5_hasPlan 0 [.ref 73] [] V (some x) W
  unfold f_X5_hasPlan at h
  refine q_go 1 (pc' := 1) (ls' := [.ref 73]) (st' := [.ref 73]) (V' := V) rfl ?_
  obtain ⟨x3, V2, hc1, h⟩ := x_b2_eq h
  refine q_call (d := (28)) (as := [.ref 73]) (pc' := 4) (ls' := [.ref 73]) (st' := []) (r1 := some x3) rfl rfl ((f_X5_changesNow_ok hc1).up (by decide)) ?_
  refine q_go 1 (pc' := 6) (ls' := [.ref 73]) (st' := [.int (-9 : Int32), .int x3]) (V' := V2) rfl ?_
  by_cases hc4 : x3 = (-9 : Int32)
  · rw [if_pos hc4] at h
    refine q_icmp rfl (fun _ => ?_) (fun c => absurd hc4 (of_decide_eq_false c))
    refine q_go 1 (pc' := 14) (ls' := [.ref 73]) (st' := [.int (0 : Int32)]) (V' := V2) rfl ?_
    obtain ⟨rfl, rfl⟩ := x_p2 h
    exact q_ret rfl rfl
  · rw [if_neg hc4] at h
    refine q_icmp rfl (fun c => absurd (of_decide_eq_true c) hc4) (fun _ => ?_)
    refine q_go 2 (pc' := 14) (ls' := [.ref 73]) (st' := [.int (1 : Int32)]) (V' := V2) rfl ?_
    obtain ⟨rfl, rfl⟩ := x_p2 h
    exact q_ret rfl rfl
def f_X5_thingIn (a0 : Int32) (V : xV) : Option (Int32 × xV) := if x_in a0 8 = true then (some ((V 74 (a0.toNatClampNeg)), V)) else none
theorem f_X5_thingIn_ok {a0 : Int32} {V W : xV} {x : Int32} (h : f_X5_thingIn a0 V = some (x, W)) : x_Rn (0) 60 [.ref 73, .int a0] V (some x) W := by
  refine ⟨2, kX5_thingIn, rfl, ?_⟩
  show x_Ex (0) kX5_thingIn 0 [.ref 73, .int a0] [] V (some x) W
  unfold f_X5_thingIn at h
  refine q_go 3 (pc' := 5) (ls' := [.ref 73, .int a0]) (st' := [.int a0, .ref 74]) (V' := V) rfl ?_
  refine x_em (p := x_in a0 8 = true) (fun hz => by rw [if_neg hz] at h; cases h) (fun hc1 => ?_)
  rw [if_pos hc1] at h
  refine q_ald (Or.inl ⟨rfl, rfl⟩) rfl hc1 ?_
  obtain ⟨rfl, rfl⟩ := x_p2 h
  exact q_ret rfl rfl
def f_X6_plan (a0 : Int32) (a1 : Int32) (V : xV) : Option (Int32 × xV) := x_b2 (f_X6_isSeason a0 V) (fun x3 V2 => if x3 = 0 then (some ((-1 : Int32), V2)) else (x_b2 (f_X6_isCase a1 V2) (fun x7 V6 => if x7 = 0 then (some ((-1 : Int32), V6)) else (x_b2 (f_X5_hasPlan V6) (fun x11 V10 => if x11 = 0 then (some ((-9 : Int32), V10)) else (x_b2 (f_X3_slotOf_2 a0 a1 V10) (fun x15 V14 => x_b2 (f_X5_thingIn x15 V14) (fun x18 V17 => some (x18, V17)))))))))
theorem f_X6_plan_ok {a0 : Int32} {a1 : Int32} {V W : xV} {x : Int32} (h : f_X6_plan a0 a1 V = some (x, W)) : x_Rn (30) 78 [.ref 0, .int a0, .int a1] V (some x) W := by
  refine ⟨3, kX6_plan, rfl, ?_⟩
  show x_Ex (30) kX6_plan 0 [.ref 0, .int a0, .int a1] [] V (some x) W
  unfold f_X6_plan at h
  refine q_go 2 (pc' := 2) (ls' := [.ref 0, .int a0, .int a1]) (st' := [.int a0, .ref 0]) (V' := V) rfl ?_
  obtain ⟨x3, V2, hc1, h⟩ := x_b2_eq h
  refine q_call (d := (29)) (as := [.ref 0, .int a0]) (pc' := 5) (ls' := [.ref 0, .int a0, .int a1]) (st' := []) (r1 := some x3) rfl rfl ((f_X6_isSeason_ok hc1).up (by decide)) ?_
  by_cases hc4 : x3 = 0
  · rw [if_pos hc4] at h
    refine q_if rfl (fun _ => ?_) (fun c => absurd hc4 (of_decide_eq_false c))
    refine q_go 1 (pc' := 17) (ls' := [.ref 0, .int a0, .int a1]) (st' := [.int (-1 : Int32)]) (V' := V2) rfl ?_
    obtain ⟨rfl, rfl⟩ := x_p2 h
    exact q_ret rfl rfl
  · rw [if_neg hc4] at h
    refine q_if rfl (fun c => absurd (of_decide_eq_true c) hc4) (fun _ => ?_)
    refine q_go 2 (pc' := 10) (ls' := [.ref 0, .int a0, .int a1]) (st' := [.int a1, .ref 0]) (V' := V2) rfl ?_
    obtain ⟨x7, V6, hc5, h⟩ := x_b2_eq h
    refine q_call (d := (29)) (as := [.ref 0, .int a1]) (pc' := 13) (ls' := [.ref 0, .int a0, .int a1]) (st' := []) (r1 := some x7) rfl rfl ((f_X6_isCase_ok hc5).up (by decide)) ?_
    by_cases hc8 : x7 = 0
    · rw [if_pos hc8] at h
      refine q_if rfl (fun c => absurd hc8 (of_decide_eq_true c)) (fun _ => ?_)
      refine q_go 1 (pc' := 17) (ls' := [.ref 0, .int a0, .int a1]) (st' := [.int (-1 : Int32)]) (V' := V6) rfl ?_
      obtain ⟨rfl, rfl⟩ := x_p2 h
      exact q_ret rfl rfl
    · rw [if_neg hc8] at h
      refine q_if rfl (fun _ => ?_) (fun c => absurd hc8 (of_decide_eq_false c))
      refine q_go 2 (pc' := 22) (ls' := [.ref 0, .int a0, .int a1]) (st' := [.ref 73]) (V' := V6) rfl ?_
      obtain ⟨x11, V10, hc9, h⟩ := x_b2_eq h
      refine q_call (d := (29)) (as := [.ref 73]) (pc' := 25) (ls' := [.ref 0, .int a0, .int a1]) (st' := []) (r1 := some x11) rfl rfl ((f_X5_hasPlan_ok hc9).up (by decide)) ?_
      by_cases hc12 : x11 = 0
      · rw [if_pos hc12] at h
        refine q_if rfl (fun _ => ?_) (fun c => absurd hc12 (of_decide_eq_false c))
        refine q_go 1 (pc' := 49) (ls' := [.ref 0, .int a0, .int a1]) (st' := [.int (-9 : Int32)]) (V' := V10) rfl ?_
        obtain ⟨rfl, rfl⟩ := x_p2 h
        exact q_ret rfl rfl
      · rw [if_neg hc12] at h
        refine q_if rfl (fun c => absurd (of_decide_eq_true c) hc12) (fun _ => ?_)
        refine q_go 6 (pc' := 38) (ls' := [.ref 0, .int a0, .int a1]) (st' := [.int a1, .int a0, .ref 2, .ref 73]) (V' := V10) rfl ?_
        obtain ⟨x15, V14, hc13, h⟩ := x_b2_eq h
        refine q_call (d := (29)) (as := [.ref 2, .int a0, .int a1]) (pc' := 41) (ls' := [.ref 0, .int a0, .int a1]) (st' := [.ref 73]) (r1 := some x15) rfl rfl ((f_X3_slotOf_2_ok hc13).up (by decide)) ?_
        obtain ⟨x18, V17, hc16, h⟩ := x_b2_eq h
        refine q_call (d := (29)) (as := [.ref 73, .int x15]) (pc' := 44) (ls' := [.ref 0, .int a0, .int a1]) (st' := []) (r1 := some x18) rfl rfl ((f_X5_thingIn_ok hc16).up (by decide)) ?_
        refine q_go 1 (pc' := 49) (ls' := [.ref 0, .int a0, .int a1]) (st' := [.int x18]) (V' := V17) rfl ?_
        obtain ⟨rfl, rfl⟩ := x_p2 h
        exact q_ret rfl rfl
def f_X5_mostLight (V : xV) : Option (Int32 × xV) := some ((V 73 6), V)
theorem f_X5_mostLight_ok {V W : xV} {x : Int32} (h : f_X5_mostLight V = some (x, W)) : x_Rn (0) 59 [.ref 73] V (some x) W := by
  refine ⟨1, kX5_mostLight, rfl, ?_⟩
  show x_Ex (0) kX5_mostLight 0 [.ref 73] [] V (some x) W
  unfold f_X5_mostLight at h
  refine q_go 2 (pc' := 4) (ls' := [.ref 73]) (st' := [.int (V 73 6)]) (V' := V) rfl ?_
  obtain ⟨rfl, rfl⟩ := x_p2 h
  exact q_ret rfl rfl
def f_X6_cost (a0 : Int32) (V : xV) : Option (Int32 × xV) := if a0 < 0 then (some ((-1 : Int32), V)) else (if a0 ≤ (1 : Int32) then (x_b2 (f_X5_hasPlan V) (fun x5 V4 => if x5 = 0 then (some ((-9 : Int32), V4)) else (if a0 = 0 then (x_b2 (f_X5_changesNow V4) (fun x13 V12 => some (x13, V12))) else (x_b2 (f_X5_mostLight V4) (fun x10 V9 => some (x10, V9)))))) else (some ((-1 : Int32), V)))
theorem f_X6_cost_ok {a0 : Int32} {V W : xV} {x : Int32} (h : f_X6_cost a0 V = some (x, W)) : x_Rn (30) 79 [.ref 0, .int a0] V (some x) W := by
  refine ⟨2, kX6_cost, rfl, ?_⟩
  show x_Ex (30) kX6_cost 0 [.ref 0, .int a0] [] V (some x) W
  unfold f_X6_cost at h
  refine q_go 1 (pc' := 1) (ls' := [.ref 0, .int a0]) (st' := [.int a0]) (V' := V) rfl ?_
  by_cases hc1 : a0 < 0
  · rw [if_pos hc1] at h
    refine q_if rfl (fun _ => ?_) (fun c => absurd hc1 (of_decide_eq_false c))
    refine q_go 1 (pc' := 10) (ls' := [.ref 0, .int a0]) (st' := [.int (-1 : Int32)]) (V' := V) rfl ?_
    obtain ⟨rfl, rfl⟩ := x_p2 h
    exact q_ret rfl rfl
  · rw [if_neg hc1] at h
    refine q_if rfl (fun c => absurd (of_decide_eq_true c) hc1) (fun _ => ?_)
    refine q_go 2 (pc' := 6) (ls' := [.ref 0, .int a0]) (st' := [.int (1 : Int32), .int a0]) (V' := V) rfl ?_
    by_cases hc2 : a0 ≤ (1 : Int32)
    · rw [if_pos hc2] at h
      refine q_icmp rfl (fun _ => ?_) (fun c => absurd hc2 (of_decide_eq_false c))
      refine q_go 2 (pc' := 15) (ls' := [.ref 0, .int a0]) (st' := [.ref 73]) (V' := V) rfl ?_
      obtain ⟨x5, V4, hc3, h⟩ := x_b2_eq h
      refine q_call (d := (29)) (as := [.ref 73]) (pc' := 18) (ls' := [.ref 0, .int a0]) (st' := []) (r1 := some x5) rfl rfl ((f_X5_hasPlan_ok hc3).up (by decide)) ?_
      by_cases hc6 : x5 = 0
      · rw [if_pos hc6] at h
        refine q_if rfl (fun c => absurd hc6 (of_decide_eq_true c)) (fun _ => ?_)
        refine q_go 1 (pc' := 23) (ls' := [.ref 0, .int a0]) (st' := [.int (-9 : Int32)]) (V' := V4) rfl ?_
        obtain ⟨rfl, rfl⟩ := x_p2 h
        exact q_ret rfl rfl
      · rw [if_neg hc6] at h
        refine q_if rfl (fun _ => ?_) (fun c => absurd hc6 (of_decide_eq_false c))
        refine q_go 1 (pc' := 25) (ls' := [.ref 0, .int a0]) (st' := [.int a0]) (V' := V4) rfl ?_
        by_cases hc7 : a0 = 0
        · rw [if_pos hc7] at h
          refine q_if rfl (fun c => absurd hc7 (of_decide_eq_true c)) (fun _ => ?_)
          refine q_go 2 (pc' := 32) (ls' := [.ref 0, .int a0]) (st' := [.ref 73]) (V' := V4) rfl ?_
          obtain ⟨x13, V12, hc11, h⟩ := x_b2_eq h
          refine q_call (d := (29)) (as := [.ref 73]) (pc' := 35) (ls' := [.ref 0, .int a0]) (st' := []) (r1 := some x13) rfl rfl ((f_X5_changesNow_ok hc11).up (by decide)) ?_
          refine q_go 1 (pc' := 45) (ls' := [.ref 0, .int a0]) (st' := [.int x13]) (V' := V12) rfl ?_
          obtain ⟨rfl, rfl⟩ := x_p2 h
          exact q_ret rfl rfl
        · rw [if_neg hc7] at h
          refine q_if rfl (fun _ => ?_) (fun c => absurd hc7 (of_decide_eq_false c))
          refine q_go 2 (pc' := 42) (ls' := [.ref 0, .int a0]) (st' := [.ref 73]) (V' := V4) rfl ?_
          obtain ⟨x10, V9, hc8, h⟩ := x_b2_eq h
          refine q_call (d := (29)) (as := [.ref 73]) (pc' := 45) (ls' := [.ref 0, .int a0]) (st' := []) (r1 := some x10) rfl rfl ((f_X5_mostLight_ok hc8).up (by decide)) ?_
          obtain ⟨rfl, rfl⟩ := x_p2 h
          exact q_ret rfl rfl
    · rw [if_neg hc2] at h
      refine q_icmp rfl (fun c => absurd (of_decide_eq_true c) hc2) (fun _ => ?_)
      refine q_go 1 (pc' := 10) (ls' := [.ref 0, .int a0]) (st' := [.int (-1 : Int32)]) (V' := V) rfl ?_
      obtain ⟨rfl, rfl⟩ := x_p2 h
      exact q_ret rfl rfl
def f_X3_lightOver_2_L4 (l1 : Int32) : Nat → (Int32 → Int32 → xV → Option (Int32 × xV)) → Int32 → Int32 → xV → Option (Int32 × xV)
  | 0, _, _, _, _ => none
  | n + 1, k, l2, l3, V => if (V 2 1) ≤ l3 then (k l2 l3 V) else (if ((l1 >>> (l3 &&& 31)) &&& 1) = (1 : Int32) then (if x_in l3 4 = true then (f_X3_lightOver_2_L4 l1 n k (l2 + (V 4 (l3.toNatClampNeg))) (l3 + (1 : Int32)) V) else none) else (f_X3_lightOver_2_L4 l1 n k l2 (l3 + (1 : Int32)) V))
theorem f_X3_lightOver_2_L4_ok (l1 : Int32) {k : Int32 → Int32 → xV → Option (Int32 × xV)} {x : Int32} {W : xV} (hk : ∀ (l2 : Int32) (l3 : Int32) (V : xV), k l2 l3 V = some (x, W) → x_Ex (0) kX3_lightOver 36 [.ref 2, .int l1, .int l2, .int l3] [] V (some x) W) : ∀ (n : Nat) (l2 : Int32) (l3 : Int32) (V : xV), f_X3_lightOver_2_L4 l1 n k l2 l3 V = some (x, W) → x_Ex (0) kX3_lightOver 4 [.ref 2, .int l1, .int l2, .int l3] [] V (some x) W := by
  intro n
  induction n with
  | zero => intro l2 l3 V  h; cases h
  | succ n ih =>
    intro l2 l3 V  h
    unfold f_X3_lightOver_2_L4 at h
    refine q_go 3 (pc' := 9) (ls' := [.ref 2, .int l1, .int l2, .int l3]) (st' := [.int (V 2 1), .int l3]) (V' := V) rfl ?_
    by_cases hc1 : (V 2 1) ≤ l3
    · rw [if_pos hc1] at h
      refine q_icmp rfl (fun _ => ?_) (fun c => absurd hc1 (of_decide_eq_false c))
      exact hk l2 l3 V  h
    · rw [if_neg hc1] at h
      refine q_icmp rfl (fun c => absurd (of_decide_eq_true c) hc1) (fun _ => ?_)
      refine q_go 6 (pc' := 18) (ls' := [.ref 2, .int l1, .int l2, .int l3]) (st' := [.int (1 : Int32), .int ((l1 >>> (l3 &&& 31)) &&& 1)]) (V' := V) rfl ?_
      by_cases hc2 : ((l1 >>> (l3 &&& 31)) &&& 1) = (1 : Int32)
      · rw [if_pos hc2] at h
        refine q_icmp rfl (fun c => absurd hc2 (of_decide_eq_true c)) (fun _ => ?_)
        refine q_go 4 (pc' := 27) (ls' := [.ref 2, .int l1, .int l2, .int l3]) (st' := [.int l3, .ref 4, .int l2]) (V' := V) rfl ?_
        refine x_em (p := x_in l3 4 = true) (fun hz => by rw [if_neg hz] at h; cases h) (fun hc3 => ?_)
        rw [if_pos hc3] at h
        refine q_ald (Or.inl ⟨rfl, rfl⟩) rfl hc3 ?_
        refine q_go 4 (pc' := 4) (ls' := [.ref 2, .int l1, .int (l2 + (V 4 (l3.toNatClampNeg))), .int (l3 + (1 : Int32))]) (st' := []) (V' := V) rfl ?_
        exact ih (l2 + (V 4 (l3.toNatClampNeg))) (l3 + (1 : Int32)) V  h
      · rw [if_neg hc2] at h
        refine q_icmp rfl (fun _ => ?_) (fun c => absurd hc2 (of_decide_eq_false c))
        refine q_go 2 (pc' := 4) (ls' := [.ref 2, .int l1, .int l2, .int (l3 + (1 : Int32))]) (st' := []) (V' := V) rfl ?_
        exact ih l2 (l3 + (1 : Int32)) V  h
def f_X3_lightOver_2 (a0 : Int32) (V : xV) : Option (Int32 × xV) := f_X3_lightOver_2_L4 a0 300 (fun l2_4 l3_5 V6 => some (l2_4, V6)) (0 : Int32) (0 : Int32) V
theorem f_X3_lightOver_2_ok {a0 : Int32} {V W : xV} {x : Int32} (h : f_X3_lightOver_2 a0 V = some (x, W)) : x_Rn (0) 42 [.ref 2, .int a0] V (some x) W := by
  refine ⟨4, kX3_lightOver, rfl, ?_⟩
  show x_Ex (0) kX3_lightOver 0 [.ref 2, .int a0, .long 0, .long 0] [] V (some x) W
  unfold f_X3_lightOver_2 at h
  refine q_go 4 (pc' := 4) (ls' := [.ref 2, .int a0, .int (0 : Int32), .int (0 : Int32)]) (st' := []) (V' := V) rfl ?_
  refine f_X3_lightOver_2_L4_ok a0 (fun l2_4 l3_5 V6 h => ?_) 300 (0 : Int32) (0 : Int32) V  h
  refine q_go 1 (pc' := 37) (ls' := [.ref 2, .int a0, .int l2_4, .int l3_5]) (st' := [.int l2_4]) (V' := V6) rfl ?_
  obtain ⟨rfl, rfl⟩ := x_p2 h
  exact q_ret rfl rfl
def f_X6_spent (a0 : Int32) (a1 : Int32) (V : xV) : Option (Int32 × xV) := x_b2 (f_X6_isThing a0 V) (fun x3 V2 => if x3 = 0 then (some ((-1000000 : Int32), V2)) else (if a1 < 0 then (some ((-1000000 : Int32), V2)) else (if (2 : Int32) < a1 then (some ((-1000000 : Int32), V2)) else (x_b2 (f_X5_hasPlan V2) (fun x9 V8 => if x9 = 0 then (some ((-1000000 : Int32), V8)) else (x_b2 (f_X5_seasonsOf a0 V8) (fun x13 V12 => if a1 = (2 : Int32) then (some (x13, V12)) else (x_b2 (f_X3_lightOver_2 x13 V12) (fun x17 V16 => if a1 = 0 then (some (x17, V16)) else (if x_in a0 6 = true then (some (((V16 3 (a0.toNatClampNeg)) - x17), V16)) else none))))))))))
theorem f_X6_spent_ok {a0 : Int32} {a1 : Int32} {V W : xV} {x : Int32} (h : f_X6_spent a0 a1 V = some (x, W)) : x_Rn (30) 80 [.ref 0, .int a0, .int a1] V (some x) W := by
  refine ⟨5, kX6_spent, rfl, ?_⟩
  show x_Ex (30) kX6_spent 0 [.ref 0, .int a0, .int a1, .long 0, .long 0] [] V (some x) W
  unfold f_X6_spent at h
  refine q_go 2 (pc' := 2) (ls' := [.ref 0, .int a0, .int a1, .long 0, .long 0]) (st' := [.int a0, .ref 0]) (V' := V) rfl ?_
  obtain ⟨x3, V2, hc1, h⟩ := x_b2_eq h
  refine q_call (d := (29)) (as := [.ref 0, .int a0]) (pc' := 5) (ls' := [.ref 0, .int a0, .int a1, .long 0, .long 0]) (st' := []) (r1 := some x3) rfl rfl ((f_X6_isThing_ok hc1).up (by decide)) ?_
  by_cases hc4 : x3 = 0
  · rw [if_pos hc4] at h
    refine q_if rfl (fun _ => ?_) (fun c => absurd hc4 (of_decide_eq_false c))
    refine q_go 1 (pc' := 29) (ls' := [.ref 0, .int a0, .int a1, .long 0, .long 0]) (st' := [.int (-1000000 : Int32)]) (V' := V2) rfl ?_
    obtain ⟨rfl, rfl⟩ := x_p2 h
    exact q_ret rfl rfl
  · rw [if_neg hc4] at h
    refine q_if rfl (fun c => absurd (of_decide_eq_true c) hc4) (fun _ => ?_)
    refine q_go 1 (pc' := 9) (ls' := [.ref 0, .int a0, .int a1, .long 0, .long 0]) (st' := [.int a1]) (V' := V2) rfl ?_
    by_cases hc5 : a1 < 0
    · rw [if_pos hc5] at h
      refine q_if rfl (fun _ => ?_) (fun c => absurd hc5 (of_decide_eq_false c))
      refine q_go 1 (pc' := 29) (ls' := [.ref 0, .int a0, .int a1, .long 0, .long 0]) (st' := [.int (-1000000 : Int32)]) (V' := V2) rfl ?_
      obtain ⟨rfl, rfl⟩ := x_p2 h
      exact q_ret rfl rfl
    · rw [if_neg hc5] at h
      refine q_if rfl (fun c => absurd (of_decide_eq_true c) hc5) (fun _ => ?_)
      refine q_go 2 (pc' := 14) (ls' := [.ref 0, .int a0, .int a1, .long 0, .long 0]) (st' := [.int (2 : Int32), .int a1]) (V' := V2) rfl ?_
      by_cases hc6 : (2 : Int32) < a1
      · rw [if_pos hc6] at h
        refine q_icmp rfl (fun _ => ?_) (fun c => absurd hc6 (of_decide_eq_false c))
        refine q_go 1 (pc' := 29) (ls' := [.ref 0, .int a0, .int a1, .long 0, .long 0]) (st' := [.int (-1000000 : Int32)]) (V' := V2) rfl ?_
        obtain ⟨rfl, rfl⟩ := x_p2 h
        exact q_ret rfl rfl
      · rw [if_neg hc6] at h
        refine q_icmp rfl (fun c => absurd (of_decide_eq_true c) hc6) (fun _ => ?_)
        refine q_go 2 (pc' := 21) (ls' := [.ref 0, .int a0, .int a1, .long 0, .long 0]) (st' := [.ref 73]) (V' := V2) rfl ?_
        obtain ⟨x9, V8, hc7, h⟩ := x_b2_eq h
        refine q_call (d := (29)) (as := [.ref 73]) (pc' := 24) (ls' := [.ref 0, .int a0, .int a1, .long 0, .long 0]) (st' := []) (r1 := some x9) rfl rfl ((f_X5_hasPlan_ok hc7).up (by decide)) ?_
        by_cases hc10 : x9 = 0
        · rw [if_pos hc10] at h
          refine q_if rfl (fun c => absurd hc10 (of_decide_eq_true c)) (fun _ => ?_)
          refine q_go 1 (pc' := 29) (ls' := [.ref 0, .int a0, .int a1, .long 0, .long 0]) (st' := [.int (-1000000 : Int32)]) (V' := V8) rfl ?_
          obtain ⟨rfl, rfl⟩ := x_p2 h
          exact q_ret rfl rfl
        · rw [if_neg hc10] at h
          refine q_if rfl (fun _ => ?_) (fun c => absurd hc10 (of_decide_eq_false c))
          refine q_go 3 (pc' := 35) (ls' := [.ref 0, .int a0, .int a1, .long 0, .long 0]) (st' := [.int a0, .ref 73]) (V' := V8) rfl ?_
          obtain ⟨x13, V12, hc11, h⟩ := x_b2_eq h
          refine q_call (d := (29)) (as := [.ref 73, .int a0]) (pc' := 38) (ls' := [.ref 0, .int a0, .int a1, .long 0, .long 0]) (st' := []) (r1 := some x13) rfl rfl ((f_X5_seasonsOf_ok hc11).up (by decide)) ?_
          refine q_go 3 (pc' := 41) (ls' := [.ref 0, .int a0, .int a1, .int x13, .long 0]) (st' := [.int (2 : Int32), .int a1]) (V' := V12) rfl ?_
          by_cases hc14 : a1 = (2 : Int32)
          · rw [if_pos hc14] at h
            refine q_icmp rfl (fun c => absurd hc14 (of_decide_eq_true c)) (fun _ => ?_)
            refine q_go 1 (pc' := 45) (ls' := [.ref 0, .int a0, .int a1, .int x13, .long 0]) (st' := [.int x13]) (V' := V12) rfl ?_
            obtain ⟨rfl, rfl⟩ := x_p2 h
            exact q_ret rfl rfl
          · rw [if_neg hc14] at h
            refine q_icmp rfl (fun _ => ?_) (fun c => absurd hc14 (of_decide_eq_false c))
            refine q_go 3 (pc' := 51) (ls' := [.ref 0, .int a0, .int a1, .int x13, .long 0]) (st' := [.int x13, .ref 2]) (V' := V12) rfl ?_
            obtain ⟨x17, V16, hc15, h⟩ := x_b2_eq h
            refine q_call (d := (29)) (as := [.ref 2, .int x13]) (pc' := 54) (ls' := [.ref 0, .int a0, .int a1, .int x13, .long 0]) (st' := []) (r1 := some x17) rfl rfl ((f_X3_lightOver_2_ok hc15).up (by decide)) ?_
            refine q_go 2 (pc' := 57) (ls' := [.ref 0, .int a0, .int a1, .int x13, .int x17]) (st' := [.int a1]) (V' := V16) rfl ?_
            by_cases hc18 : a1 = 0
            · rw [if_pos hc18] at h
              refine q_if rfl (fun c => absurd hc18 (of_decide_eq_true c)) (fun _ => ?_)
              refine q_go 2 (pc' := 77) (ls' := [.ref 0, .int a0, .int a1, .int x13, .int x17]) (st' := [.int x17]) (V' := V16) rfl ?_
              obtain ⟨rfl, rfl⟩ := x_p2 h
              exact q_ret rfl rfl
            · rw [if_neg hc18] at h
              refine q_if rfl (fun _ => ?_) (fun c => absurd hc18 (of_decide_eq_false c))
              refine q_go 4 (pc' := 73) (ls' := [.ref 0, .int a0, .int a1, .int x13, .int x17]) (st' := [.int a0, .ref 3]) (V' := V16) rfl ?_
              refine x_em (p := x_in a0 6 = true) (fun hz => by rw [if_neg hz] at h; cases h) (fun hc19 => ?_)
              rw [if_pos hc19] at h
              refine q_ald (Or.inl ⟨rfl, rfl⟩) rfl hc19 ?_
              refine q_go 2 (pc' := 77) (ls' := [.ref 0, .int a0, .int a1, .int x13, .int x17]) (st' := [.int ((V16 3 (a0.toNatClampNeg)) - x17)]) (V' := V16) rfl ?_
              obtain ⟨rfl, rfl⟩ := x_p2 h
              exact q_ret rfl rfl
def f_X6_shown (a0 : Int32) (V : xV) : Option (Int32 × xV) := x_b2 (f_X6_isSeason a0 V) (fun x3 V2 => if x3 = 0 then (some ((-1 : Int32), V2)) else (x_b2 (f_X5_hasPlan V2) (fun x7 V6 => if x7 = 0 then (some ((-9 : Int32), V6)) else (x_b2 (f_X5_thingsIn a0 V6) (fun x11 V10 => some (x11, V10))))))
theorem f_X6_shown_ok {a0 : Int32} {V W : xV} {x : Int32} (h : f_X6_shown a0 V = some (x, W)) : x_Rn (30) 81 [.ref 0, .int a0] V (some x) W := by
  refine ⟨2, kX6_shown, rfl, ?_⟩
  show x_Ex (30) kX6_shown 0 [.ref 0, .int a0] [] V (some x) W
  unfold f_X6_shown at h
  refine q_go 2 (pc' := 2) (ls' := [.ref 0, .int a0]) (st' := [.int a0, .ref 0]) (V' := V) rfl ?_
  obtain ⟨x3, V2, hc1, h⟩ := x_b2_eq h
  refine q_call (d := (29)) (as := [.ref 0, .int a0]) (pc' := 5) (ls' := [.ref 0, .int a0]) (st' := []) (r1 := some x3) rfl rfl ((f_X6_isSeason_ok hc1).up (by decide)) ?_
  by_cases hc4 : x3 = 0
  · rw [if_pos hc4] at h
    refine q_if rfl (fun c => absurd hc4 (of_decide_eq_true c)) (fun _ => ?_)
    refine q_go 1 (pc' := 9) (ls' := [.ref 0, .int a0]) (st' := [.int (-1 : Int32)]) (V' := V2) rfl ?_
    obtain ⟨rfl, rfl⟩ := x_p2 h
    exact q_ret rfl rfl
  · rw [if_neg hc4] at h
    refine q_if rfl (fun _ => ?_) (fun c => absurd hc4 (of_decide_eq_false c))
    refine q_go 2 (pc' := 14) (ls' := [.ref 0, .int a0]) (st' := [.ref 73]) (V' := V2) rfl ?_
    obtain ⟨x7, V6, hc5, h⟩ := x_b2_eq h
    refine q_call (d := (29)) (as := [.ref 73]) (pc' := 17) (ls' := [.ref 0, .int a0]) (st' := []) (r1 := some x7) rfl rfl ((f_X5_hasPlan_ok hc5).up (by decide)) ?_
    by_cases hc8 : x7 = 0
    · rw [if_pos hc8] at h
      refine q_if rfl (fun _ => ?_) (fun c => absurd hc8 (of_decide_eq_false c))
      refine q_go 1 (pc' := 33) (ls' := [.ref 0, .int a0]) (st' := [.int (-9 : Int32)]) (V' := V6) rfl ?_
      obtain ⟨rfl, rfl⟩ := x_p2 h
      exact q_ret rfl rfl
    · rw [if_neg hc8] at h
      refine q_if rfl (fun c => absurd (of_decide_eq_true c) hc8) (fun _ => ?_)
      refine q_go 3 (pc' := 25) (ls' := [.ref 0, .int a0]) (st' := [.int a0, .ref 73]) (V' := V6) rfl ?_
      obtain ⟨x11, V10, hc9, h⟩ := x_b2_eq h
      refine q_call (d := (29)) (as := [.ref 73, .int a0]) (pc' := 28) (ls' := [.ref 0, .int a0]) (st' := []) (r1 := some x11) rfl rfl ((f_X5_thingsIn_ok hc9).up (by decide)) ?_
      refine q_go 1 (pc' := 33) (ls' := [.ref 0, .int a0]) (st' := [.int x11]) (V' := V10) rfl ?_
      obtain ⟨rfl, rfl⟩ := x_p2 h
      exact q_ret rfl rfl
def f_X6_often (a0 : Int32) (V : xV) : Option (Int32 × xV) := if 0 ≤ a0 then (x_b2 (f_X5_hasPlan V) (fun x4 V3 => if x4 = 0 then (some ((-9 : Int32), V3)) else (x_b2 (f_X5_thingOfRank a0 V3) (fun x8 V7 => some (x8, V7))))) else (some ((-1 : Int32), V))
theorem f_X6_often_ok {a0 : Int32} {V W : xV} {x : Int32} (h : f_X6_often a0 V = some (x, W)) : x_Rn (30) 82 [.ref 0, .int a0] V (some x) W := by
  refine ⟨2, kX6_often, rfl, ?_⟩
  show x_Ex (30) kX6_often 0 [.ref 0, .int a0] [] V (some x) W
  unfold f_X6_often at h
  refine q_go 1 (pc' := 1) (ls' := [.ref 0, .int a0]) (st' := [.int a0]) (V' := V) rfl ?_
  by_cases hc1 : 0 ≤ a0
  · rw [if_pos hc1] at h
    refine q_if rfl (fun _ => ?_) (fun c => absurd hc1 (of_decide_eq_false c))
    refine q_go 2 (pc' := 10) (ls' := [.ref 0, .int a0]) (st' := [.ref 73]) (V' := V) rfl ?_
    obtain ⟨x4, V3, hc2, h⟩ := x_b2_eq h
    refine q_call (d := (29)) (as := [.ref 73]) (pc' := 13) (ls' := [.ref 0, .int a0]) (st' := []) (r1 := some x4) rfl rfl ((f_X5_hasPlan_ok hc2).up (by decide)) ?_
    by_cases hc5 : x4 = 0
    · rw [if_pos hc5] at h
      refine q_if rfl (fun _ => ?_) (fun c => absurd hc5 (of_decide_eq_false c))
      refine q_go 1 (pc' := 29) (ls' := [.ref 0, .int a0]) (st' := [.int (-9 : Int32)]) (V' := V3) rfl ?_
      obtain ⟨rfl, rfl⟩ := x_p2 h
      exact q_ret rfl rfl
    · rw [if_neg hc5] at h
      refine q_if rfl (fun c => absurd (of_decide_eq_true c) hc5) (fun _ => ?_)
      refine q_go 3 (pc' := 21) (ls' := [.ref 0, .int a0]) (st' := [.int a0, .ref 73]) (V' := V3) rfl ?_
      obtain ⟨x8, V7, hc6, h⟩ := x_b2_eq h
      refine q_call (d := (29)) (as := [.ref 73, .int a0]) (pc' := 24) (ls' := [.ref 0, .int a0]) (st' := []) (r1 := some x8) rfl rfl ((f_X5_thingOfRank_ok hc6).up (by decide)) ?_
      refine q_go 1 (pc' := 29) (ls' := [.ref 0, .int a0]) (st' := [.int x8]) (V' := V7) rfl ?_
      obtain ⟨rfl, rfl⟩ := x_p2 h
      exact q_ret rfl rfl
  · rw [if_neg hc1] at h
    refine q_if rfl (fun c => absurd (of_decide_eq_true c) hc1) (fun _ => ?_)
    refine q_go 1 (pc' := 5) (ls' := [.ref 0, .int a0]) (st' := [.int (-1 : Int32)]) (V' := V) rfl ?_
    obtain ⟨rfl, rfl⟩ := x_p2 h
    exact q_ret rfl rfl
def f_X6_needed (V : xV) : Option (Int32 × xV) := x_b2 (f_X5_leastMore V) (fun x3 V2 => some (x3, V2))
theorem f_X6_needed_ok {V W : xV} {x : Int32} (h : f_X6_needed V = some (x, W)) : x_Rn (30) 83 [.ref 0] V (some x) W := by
  refine ⟨1, kX6_needed, rfl, ?_⟩
  show x_Ex (30) kX6_needed 0 [.ref 0] [] V (some x) W
  unfold f_X6_needed at h
  refine q_go 2 (pc' := 4) (ls' := [.ref 0]) (st' := [.ref 73]) (V' := V) rfl ?_
  obtain ⟨x3, V2, hc1, h⟩ := x_b2_eq h
  refine q_call (d := (29)) (as := [.ref 73]) (pc' := 7) (ls' := [.ref 0]) (st' := []) (r1 := some x3) rfl rfl ((f_X5_leastMore_ok hc1).up (by decide)) ?_
  obtain ⟨rfl, rfl⟩ := x_p2 h
  exact q_ret rfl rfl
def f_X6_dearth (a0 : Int32) (V : xV) : Option (Int32 × xV) := x_b2 (f_X6_isThing a0 V) (fun x3 V2 => if x3 = 0 then (some ((-1 : Int32), V2)) else (x_b2 (f_X5_changesWithout a0 V2) (fun x7 V6 => if x7 = (-9 : Int32) then (some ((-9 : Int32), V6)) else (x_b2 (f_X5_changesNow V6) (fun x11 V10 => some ((x7 - x11), V10))))))
theorem f_X6_dearth_ok {a0 : Int32} {V W : xV} {x : Int32} (h : f_X6_dearth a0 V = some (x, W)) : x_Rn (30) 84 [.ref 0, .int a0] V (some x) W := by
  refine ⟨3, kX6_dearth, rfl, ?_⟩
  show x_Ex (30) kX6_dearth 0 [.ref 0, .int a0, .long 0] [] V (some x) W
  unfold f_X6_dearth at h
  refine q_go 2 (pc' := 2) (ls' := [.ref 0, .int a0, .long 0]) (st' := [.int a0, .ref 0]) (V' := V) rfl ?_
  obtain ⟨x3, V2, hc1, h⟩ := x_b2_eq h
  refine q_call (d := (29)) (as := [.ref 0, .int a0]) (pc' := 5) (ls' := [.ref 0, .int a0, .long 0]) (st' := []) (r1 := some x3) rfl rfl ((f_X6_isThing_ok hc1).up (by decide)) ?_
  by_cases hc4 : x3 = 0
  · rw [if_pos hc4] at h
    refine q_if rfl (fun c => absurd hc4 (of_decide_eq_true c)) (fun _ => ?_)
    refine q_go 1 (pc' := 9) (ls' := [.ref 0, .int a0, .long 0]) (st' := [.int (-1 : Int32)]) (V' := V2) rfl ?_
    obtain ⟨rfl, rfl⟩ := x_p2 h
    exact q_ret rfl rfl
  · rw [if_neg hc4] at h
    refine q_if rfl (fun _ => ?_) (fun c => absurd hc4 (of_decide_eq_false c))
    refine q_go 3 (pc' := 15) (ls' := [.ref 0, .int a0, .long 0]) (st' := [.int a0, .ref 73]) (V' := V2) rfl ?_
    obtain ⟨x7, V6, hc5, h⟩ := x_b2_eq h
    refine q_call (d := (29)) (as := [.ref 73, .int a0]) (pc' := 18) (ls' := [.ref 0, .int a0, .long 0]) (st' := []) (r1 := some x7) rfl rfl ((f_X5_changesWithout_ok hc5).up (by decide)) ?_
    refine q_go 3 (pc' := 22) (ls' := [.ref 0, .int a0, .int x7]) (st' := [.int (-9 : Int32), .int x7]) (V' := V6) rfl ?_
    by_cases hc8 : x7 = (-9 : Int32)
    · rw [if_pos hc8] at h
      refine q_icmp rfl (fun c => absurd hc8 (of_decide_eq_true c)) (fun _ => ?_)
      refine q_go 2 (pc' := 39) (ls' := [.ref 0, .int a0, .int x7]) (st' := [.int (-9 : Int32)]) (V' := V6) rfl ?_
      obtain ⟨rfl, rfl⟩ := x_p2 h
      exact q_ret rfl rfl
    · rw [if_neg hc8] at h
      refine q_icmp rfl (fun _ => ?_) (fun c => absurd hc8 (of_decide_eq_false c))
      refine q_go 3 (pc' := 35) (ls' := [.ref 0, .int a0, .int x7]) (st' := [.ref 73, .int x7]) (V' := V6) rfl ?_
      obtain ⟨x11, V10, hc9, h⟩ := x_b2_eq h
      refine q_call (d := (29)) (as := [.ref 73]) (pc' := 38) (ls' := [.ref 0, .int a0, .int x7]) (st' := [.int x7]) (r1 := some x11) rfl rfl ((f_X5_changesNow_ok hc9).up (by decide)) ?_
      refine q_go 1 (pc' := 39) (ls' := [.ref 0, .int a0, .int x7]) (st' := [.int (x7 - x11)]) (V' := V10) rfl ?_
      obtain ⟨rfl, rfl⟩ := x_p2 h
      exact q_ret rfl rfl
def f_X6_sees (a0 : Int32) (V : xV) : Option (Int32 × xV) := if a0 = (9 : Int32) then (if (V 0 9) < (4 : Int32) then (if x_in (V 0 9) 4 = true then (some (((V 0 9) + 1), (x_up (x_up V 72 ((V 0 9).toNatClampNeg) a0) 0 9 ((V 0 9) + 1)))) else none) else (some ((-3 : Int32), V))) else (if a0 < 0 then (some ((-1 : Int32), V)) else (if a0 ≤ (6 : Int32) then (if (V 0 9) < (4 : Int32) then (if x_in (V 0 9) 4 = true then (some (((V 0 9) + 1), (x_up (x_up V 72 ((V 0 9).toNatClampNeg) a0) 0 9 ((V 0 9) + 1)))) else none) else (some ((-3 : Int32), V))) else (some ((-1 : Int32), V))))
theorem f_X6_sees_ok {a0 : Int32} {V W : xV} {x : Int32} (h : f_X6_sees a0 V = some (x, W)) : x_Rn (0) 85 [.ref 0, .int a0] V (some x) W := by
  refine ⟨2, kX6_sees, rfl, ?_⟩
  show x_Ex (0) kX6_sees 0 [.ref 0, .int a0] [] V (some x) W
  unfold f_X6_sees at h
  refine q_go 2 (pc' := 3) (ls' := [.ref 0, .int a0]) (st' := [.int (9 : Int32), .int a0]) (V' := V) rfl ?_
  by_cases hc1 : a0 = (9 : Int32)
  · rw [if_pos hc1] at h
    refine q_icmp rfl (fun _ => ?_) (fun c => absurd hc1 (of_decide_eq_false c))
    refine q_go 3 (pc' := 23) (ls' := [.ref 0, .int a0]) (st' := [.int (4 : Int32), .int (V 0 9)]) (V' := V) rfl ?_
    by_cases hc2 : (V 0 9) < (4 : Int32)
    · rw [if_pos hc2] at h
      refine q_icmp rfl (fun _ => ?_) (fun c => absurd hc2 (of_decide_eq_false c))
      refine q_go 5 (pc' := 38) (ls' := [.ref 0, .int a0]) (st' := [.int a0, .int (V 0 9), .ref 72]) (V' := V) rfl ?_
      refine x_em (p := x_in (V 0 9) 4 = true) (fun hz => by rw [if_neg hz] at h; cases h) (fun hc3 => ?_)
      rw [if_pos hc3] at h
      refine q_ast rfl rfl hc3 ?_
      refine q_go 8 (pc' := 53) (ls' := [.ref 0, .int a0]) (st' := [.int ((V 0 9) + 1)]) (V' := (x_up (x_up V 72 ((V 0 9).toNatClampNeg) a0) 0 9 ((V 0 9) + 1))) rfl ?_
      obtain ⟨rfl, rfl⟩ := x_p2 h
      exact q_ret rfl rfl
    · rw [if_neg hc2] at h
      refine q_icmp rfl (fun c => absurd (of_decide_eq_true c) hc2) (fun _ => ?_)
      refine q_go 1 (pc' := 28) (ls' := [.ref 0, .int a0]) (st' := [.int (-3 : Int32)]) (V' := V) rfl ?_
      obtain ⟨rfl, rfl⟩ := x_p2 h
      exact q_ret rfl rfl
  · rw [if_neg hc1] at h
    refine q_icmp rfl (fun c => absurd (of_decide_eq_true c) hc1) (fun _ => ?_)
    refine q_go 1 (pc' := 7) (ls' := [.ref 0, .int a0]) (st' := [.int a0]) (V' := V) rfl ?_
    by_cases hc4 : a0 < 0
    · rw [if_pos hc4] at h
      refine q_if rfl (fun _ => ?_) (fun c => absurd hc4 (of_decide_eq_false c))
      refine q_go 1 (pc' := 17) (ls' := [.ref 0, .int a0]) (st' := [.int (-1 : Int32)]) (V' := V) rfl ?_
      obtain ⟨rfl, rfl⟩ := x_p2 h
      exact q_ret rfl rfl
    · rw [if_neg hc4] at h
      refine q_if rfl (fun c => absurd (of_decide_eq_true c) hc4) (fun _ => ?_)
      refine q_go 2 (pc' := 13) (ls' := [.ref 0, .int a0]) (st' := [.int (6 : Int32), .int a0]) (V' := V) rfl ?_
      by_cases hc5 : a0 ≤ (6 : Int32)
      · rw [if_pos hc5] at h
        refine q_icmp rfl (fun _ => ?_) (fun c => absurd hc5 (of_decide_eq_false c))
        refine q_go 3 (pc' := 23) (ls' := [.ref 0, .int a0]) (st' := [.int (4 : Int32), .int (V 0 9)]) (V' := V) rfl ?_
        by_cases hc6 : (V 0 9) < (4 : Int32)
        · rw [if_pos hc6] at h
          refine q_icmp rfl (fun _ => ?_) (fun c => absurd hc6 (of_decide_eq_false c))
          refine q_go 5 (pc' := 38) (ls' := [.ref 0, .int a0]) (st' := [.int a0, .int (V 0 9), .ref 72]) (V' := V) rfl ?_
          refine x_em (p := x_in (V 0 9) 4 = true) (fun hz => by rw [if_neg hz] at h; cases h) (fun hc7 => ?_)
          rw [if_pos hc7] at h
          refine q_ast rfl rfl hc7 ?_
          refine q_go 8 (pc' := 53) (ls' := [.ref 0, .int a0]) (st' := [.int ((V 0 9) + 1)]) (V' := (x_up (x_up V 72 ((V 0 9).toNatClampNeg) a0) 0 9 ((V 0 9) + 1))) rfl ?_
          obtain ⟨rfl, rfl⟩ := x_p2 h
          exact q_ret rfl rfl
        · rw [if_neg hc6] at h
          refine q_icmp rfl (fun c => absurd (of_decide_eq_true c) hc6) (fun _ => ?_)
          refine q_go 1 (pc' := 28) (ls' := [.ref 0, .int a0]) (st' := [.int (-3 : Int32)]) (V' := V) rfl ?_
          obtain ⟨rfl, rfl⟩ := x_p2 h
          exact q_ret rfl rfl
      · rw [if_neg hc5] at h
        refine q_icmp rfl (fun c => absurd (of_decide_eq_true c) hc5) (fun _ => ?_)
        refine q_go 1 (pc' := 17) (ls' := [.ref 0, .int a0]) (st' := [.int (-1 : Int32)]) (V' := V) rfl ?_
        obtain ⟨rfl, rfl⟩ := x_p2 h
        exact q_ret rfl rfl
def f_X6_forget (V : xV) : Option (Int32 × xV) := some ((V 0 9), (x_up V 0 9 (0 : Int32)))
theorem f_X6_forget_ok {V W : xV} {x : Int32} (h : f_X6_forget V = some (x, W)) : x_Rn (0) 86 [.ref 0] V (some x) W := by
  refine ⟨2, kX6_forget, rfl, ?_⟩
  show x_Ex (0) kX6_forget 0 [.ref 0, .long 0] [] V (some x) W
  unfold f_X6_forget at h
  refine q_go 7 (pc' := 11) (ls' := [.ref 0, .int (V 0 9)]) (st' := [.int (V 0 9)]) (V' := (x_up V 0 9 (0 : Int32))) rfl ?_
  obtain ⟨rfl, rfl⟩ := x_p2 h
  exact q_ret rfl rfl
def f_X6_isAllThatWasSeen_L15 (l1 : Int32) (l2 : Int32) : Nat → (Int32 → xV → Option (Int32 × xV)) → Int32 → xV → Option (Int32 × xV)
  | 0, _, _, _ => none
  | n + 1, k, l3, V => if (V 0 9) ≤ l3 then (k l3 V) else (if x_in l3 4 = true then (if (V 72 (l3.toNatClampNeg)) = l2 then (f_X6_isAllThatWasSeen_L15 l1 l2 n k (l3 + (1 : Int32)) V) else (some ((0 : Int32), V))) else none)
theorem f_X6_isAllThatWasSeen_L15_ok (l1 : Int32) (l2 : Int32) {k : Int32 → xV → Option (Int32 × xV)} {x : Int32} {W : xV} (hk : ∀ (l3 : Int32) (V : xV), k l3 V = some (x, W) → x_Ex (0) kX6_isAllThatWasSeen 41 [.ref 0, .int l1, .int l2, .int l3] [] V (some x) W) : ∀ (n : Nat) (l3 : Int32) (V : xV), f_X6_isAllThatWasSeen_L15 l1 l2 n k l3 V = some (x, W) → x_Ex (0) kX6_isAllThatWasSeen 15 [.ref 0, .int l1, .int l2, .int l3] [] V (some x) W := by
  intro n
  induction n with
  | zero => intro l3 V  h; cases h
  | succ n ih =>
    intro l3 V  h
    unfold f_X6_isAllThatWasSeen_L15 at h
    refine q_go 3 (pc' := 20) (ls' := [.ref 0, .int l1, .int l2, .int l3]) (st' := [.int (V 0 9), .int l3]) (V' := V) rfl ?_
    by_cases hc2 : (V 0 9) ≤ l3
    · rw [if_pos hc2] at h
      refine q_icmp rfl (fun _ => ?_) (fun c => absurd hc2 (of_decide_eq_false c))
      exact hk l3 V  h
    · rw [if_neg hc2] at h
      refine q_icmp rfl (fun c => absurd (of_decide_eq_true c) hc2) (fun _ => ?_)
      refine q_go 3 (pc' := 28) (ls' := [.ref 0, .int l1, .int l2, .int l3]) (st' := [.int l3, .ref 72]) (V' := V) rfl ?_
      refine x_em (p := x_in l3 4 = true) (fun hz => by rw [if_neg hz] at h; cases h) (fun hc3 => ?_)
      rw [if_pos hc3] at h
      refine q_ald (Or.inl ⟨rfl, rfl⟩) rfl hc3 ?_
      refine q_go 1 (pc' := 30) (ls' := [.ref 0, .int l1, .int l2, .int l3]) (st' := [.int l2, .int (V 72 (l3.toNatClampNeg))]) (V' := V) rfl ?_
      by_cases hc4 : (V 72 (l3.toNatClampNeg)) = l2
      · rw [if_pos hc4] at h
        refine q_icmp rfl (fun _ => ?_) (fun c => absurd hc4 (of_decide_eq_false c))
        refine q_go 2 (pc' := 15) (ls' := [.ref 0, .int l1, .int l2, .int (l3 + (1 : Int32))]) (st' := []) (V' := V) rfl ?_
        exact ih (l3 + (1 : Int32)) V  h
      · rw [if_neg hc4] at h
        refine q_icmp rfl (fun c => absurd (of_decide_eq_true c) hc4) (fun _ => ?_)
        refine q_go 1 (pc' := 34) (ls' := [.ref 0, .int l1, .int l2, .int l3]) (st' := [.int (0 : Int32)]) (V' := V) rfl ?_
        obtain ⟨rfl, rfl⟩ := x_p2 h
        exact q_ret rfl rfl
def f_X6_isAllThatWasSeen (a0 : Int32) (V : xV) : Option (Int32 × xV) := if a0 = (-9 : Int32) then (f_X6_isAllThatWasSeen_L15 a0 (9 : Int32) 300 (fun l3_7 V8 => some ((1 : Int32), V8)) (0 : Int32) V) else (f_X6_isAllThatWasSeen_L15 a0 a0 300 (fun l3_5 V6 => some ((1 : Int32), V6)) (0 : Int32) V)
theorem f_X6_isAllThatWasSeen_ok {a0 : Int32} {V W : xV} {x : Int32} (h : f_X6_isAllThatWasSeen a0 V = some (x, W)) : x_Rn (0) 95 [.ref 0, .int a0] V (some x) W := by
  refine ⟨4, kX6_isAllThatWasSeen, rfl, ?_⟩
  show x_Ex (0) kX6_isAllThatWasSeen 0 [.ref 0, .int a0, .long 0, .long 0] [] V (some x) W
  unfold f_X6_isAllThatWasSeen at h
  refine q_go 2 (pc' := 3) (ls' := [.ref 0, .int a0, .long 0, .long 0]) (st' := [.int (-9 : Int32), .int a0]) (V' := V) rfl ?_
  by_cases hc1 : a0 = (-9 : Int32)
  · rw [if_pos hc1] at h
    refine q_icmp rfl (fun c => absurd hc1 (of_decide_eq_true c)) (fun _ => ?_)
    refine q_go 5 (pc' := 15) (ls' := [.ref 0, .int a0, .int (9 : Int32), .int (0 : Int32)]) (st' := []) (V' := V) rfl ?_
    refine f_X6_isAllThatWasSeen_L15_ok a0 (9 : Int32) (fun l3_7 V8 h => ?_) 300 (0 : Int32) V  h
    refine q_go 1 (pc' := 42) (ls' := [.ref 0, .int a0, .int (9 : Int32), .int l3_7]) (st' := [.int (1 : Int32)]) (V' := V8) rfl ?_
    obtain ⟨rfl, rfl⟩ := x_p2 h
    exact q_ret rfl rfl
  · rw [if_neg hc1] at h
    refine q_icmp rfl (fun _ => ?_) (fun c => absurd hc1 (of_decide_eq_false c))
    refine q_go 4 (pc' := 15) (ls' := [.ref 0, .int a0, .int a0, .int (0 : Int32)]) (st' := []) (V' := V) rfl ?_
    refine f_X6_isAllThatWasSeen_L15_ok a0 a0 (fun l3_5 V6 h => ?_) 300 (0 : Int32) V  h
    refine q_go 1 (pc' := 42) (ls' := [.ref 0, .int a0, .int a0, .int l3_5]) (st' := [.int (1 : Int32)]) (V' := V6) rfl ?_
    obtain ⟨rfl, rfl⟩ := x_p2 h
    exact q_ret rfl rfl
def f_X6_unseen_L4 : Nat → (Int32 → Int32 → xV → Option (Int32 × xV)) → Int32 → Int32 → xV → Option (Int32 × xV)
  | 0, _, _, _, _ => none
  | n + 1, k, l1, l2, V => if (V 2 0) ≤ l2 then (k l1 l2 V) else (x_b2 (f_X5_changesWithout l2 V) (fun x4 V3 => x_b2 (f_X6_isAllThatWasSeen x4 V3) (fun x7 V6 => if x7 = 0 then (f_X6_unseen_L4 n k l1 (l2 + (1 : Int32)) V6) else (f_X6_unseen_L4 n k (l1 ||| ((1 : Int32) <<< (l2 &&& 31))) (l2 + (1 : Int32)) V6))))
theorem f_X6_unseen_L4_ok {k : Int32 → Int32 → xV → Option (Int32 × xV)} {x : Int32} {W : xV} (hk : ∀ (l1 : Int32) (l2 : Int32) (V : xV), k l1 l2 V = some (x, W) → x_Ex (30) kX6_unseen 42 [.ref 0, .int l1, .int l2] [] V (some x) W) : ∀ (n : Nat) (l1 : Int32) (l2 : Int32) (V : xV), f_X6_unseen_L4 n k l1 l2 V = some (x, W) → x_Ex (30) kX6_unseen 4 [.ref 0, .int l1, .int l2] [] V (some x) W := by
  intro n
  induction n with
  | zero => intro l1 l2 V  h; cases h
  | succ n ih =>
    intro l1 l2 V  h
    unfold f_X6_unseen_L4 at h
    refine q_go 4 (pc' := 12) (ls' := [.ref 0, .int l1, .int l2]) (st' := [.int (V 2 0), .int l2]) (V' := V) rfl ?_
    by_cases hc1 : (V 2 0) ≤ l2
    · rw [if_pos hc1] at h
      refine q_icmp rfl (fun _ => ?_) (fun c => absurd hc1 (of_decide_eq_false c))
      exact hk l1 l2 V  h
    · rw [if_neg hc1] at h
      refine q_icmp rfl (fun c => absurd (of_decide_eq_true c) hc1) (fun _ => ?_)
      refine q_go 4 (pc' := 21) (ls' := [.ref 0, .int l1, .int l2]) (st' := [.int l2, .ref 73, .ref 0]) (V' := V) rfl ?_
      obtain ⟨x4, V3, hc2, h⟩ := x_b2_eq h
      refine q_call (d := (29)) (as := [.ref 73, .int l2]) (pc' := 24) (ls' := [.ref 0, .int l1, .int l2]) (st' := [.ref 0]) (r1 := some x4) rfl rfl ((f_X5_changesWithout_ok hc2).up (by decide)) ?_
      obtain ⟨x7, V6, hc5, h⟩ := x_b2_eq h
      refine q_call (d := (29)) (as := [.ref 0, .int x4]) (pc' := 27) (ls' := [.ref 0, .int l1, .int l2]) (st' := []) (r1 := some x7) rfl rfl ((f_X6_isAllThatWasSeen_ok hc5).up (by decide)) ?_
      by_cases hc8 : x7 = 0
      · rw [if_pos hc8] at h
        refine q_if rfl (fun _ => ?_) (fun c => absurd hc8 (of_decide_eq_false c))
        refine q_go 2 (pc' := 4) (ls' := [.ref 0, .int l1, .int (l2 + (1 : Int32))]) (st' := []) (V' := V6) rfl ?_
        exact ih l1 (l2 + (1 : Int32)) V6  h
      · rw [if_neg hc8] at h
        refine q_if rfl (fun c => absurd (of_decide_eq_true c) hc8) (fun _ => ?_)
        refine q_go 8 (pc' := 4) (ls' := [.ref 0, .int (l1 ||| ((1 : Int32) <<< (l2 &&& 31))), .int (l2 + (1 : Int32))]) (st' := []) (V' := V6) rfl ?_
        exact ih (l1 ||| ((1 : Int32) <<< (l2 &&& 31))) (l2 + (1 : Int32)) V6  h
def f_X6_unseen (V : xV) : Option (Int32 × xV) := f_X6_unseen_L4 300 (fun l1_9 l2_10 V11 => some (l1_9, V11)) (0 : Int32) (0 : Int32) V
theorem f_X6_unseen_ok {V W : xV} {x : Int32} (h : f_X6_unseen V = some (x, W)) : x_Rn (30) 87 [.ref 0] V (some x) W := by
  refine ⟨3, kX6_unseen, rfl, ?_⟩
  show x_Ex (30) kX6_unseen 0 [.ref 0, .long 0, .long 0] [] V (some x) W
  unfold f_X6_unseen at h
  refine q_go 4 (pc' := 4) (ls' := [.ref 0, .int (0 : Int32), .int (0 : Int32)]) (st' := []) (V' := V) rfl ?_
  refine f_X6_unseen_L4_ok (fun l1_9 l2_10 V11 h => ?_) 300 (0 : Int32) (0 : Int32) V  h
  refine q_go 1 (pc' := 43) (ls' := [.ref 0, .int l1_9, .int l2_10]) (st' := [.int l1_9]) (V' := V11) rfl ?_
  obtain ⟨rfl, rfl⟩ := x_p2 h
  exact q_ret rfl rfl
def f_X6_keep (a0 : Int32) (V : xV) : Option (Int32 × xV) := if a0 < 0 then (some ((-1 : Int32), V)) else (if a0 < (2 : Int32) then (if x_in a0 2 = true then (x_b1 (x_tkW (86 + 5 * (a0.toNatClampNeg)) 5 V) (fun V5 => some ((V5 2 0), (x_up V5 0 7 ((V5 0 7) ||| ((1 : Int32) <<< (a0 &&& 31))))))) else none) else (some ((-1 : Int32), V)))
theorem f_X6_keep_ok {a0 : Int32} {V W : xV} {x : Int32} (h : f_X6_keep a0 V = some (x, W)) : x_Rn (1) 88 [.ref 0, .int a0] V (some x) W := by
  refine ⟨2, kX6_keep, rfl, ?_⟩
  show x_Ex (1) kX6_keep 0 [.ref 0, .int a0] [] V (some x) W
  unfold f_X6_keep at h
  refine q_go 1 (pc' := 1) (ls' := [.ref 0, .int a0]) (st' := [.int a0]) (V' := V) rfl ?_
  by_cases hc1 : a0 < 0
  · rw [if_pos hc1] at h
    refine q_if rfl (fun _ => ?_) (fun c => absurd hc1 (of_decide_eq_false c))
    refine q_go 1 (pc' := 10) (ls' := [.ref 0, .int a0]) (st' := [.int (-1 : Int32)]) (V' := V) rfl ?_
    obtain ⟨rfl, rfl⟩ := x_p2 h
    exact q_ret rfl rfl
  · rw [if_neg hc1] at h
    refine q_if rfl (fun c => absurd (of_decide_eq_true c) hc1) (fun _ => ?_)
    refine q_go 2 (pc' := 6) (ls' := [.ref 0, .int a0]) (st' := [.int (2 : Int32), .int a0]) (V' := V) rfl ?_
    by_cases hc2 : a0 < (2 : Int32)
    · rw [if_pos hc2] at h
      refine q_icmp rfl (fun _ => ?_) (fun c => absurd hc2 (of_decide_eq_false c))
      refine q_go 3 (pc' := 16) (ls' := [.ref 0, .int a0]) (st' := [.int a0, .ref 71]) (V' := V) rfl ?_
      refine x_em (p := x_in a0 2 = true) (fun hz => by rw [if_neg hz] at h; cases h) (fun hc3 => ?_)
      rw [if_pos hc3] at h
      refine q_aald rfl rfl hc3 (x_aref71 hc3) ?_
      refine q_go 2 (pc' := 21) (ls' := [.ref 0, .int a0]) (st' := [.ref 5, .ref (86 + 5 * (a0.toNatClampNeg))]) (V' := V) rfl ?_
      obtain ⟨V5, hc4, h⟩ := x_b1_eq h
      refine q_call (d := (0)) (as := [.ref (86 + 5 * (a0.toNatClampNeg)), .ref 5]) (pc' := 24) (ls' := [.ref 0, .int a0]) (st' := []) (r1 := none) rfl (x_c26 (x_isW71 hc3) (Nat.le_of_ble_eq_true rfl)) ((x_tkW_ok (x_isW71 hc3) (by unfold x_isW; decide) hc4).up (by decide)) ?_
      refine q_go 11 (pc' := 43) (ls' := [.ref 0, .int a0]) (st' := [.int (V5 2 0)]) (V' := (x_up V5 0 7 ((V5 0 7) ||| ((1 : Int32) <<< (a0 &&& 31))))) rfl ?_
      obtain ⟨rfl, rfl⟩ := x_p2 h
      exact q_ret rfl rfl
    · rw [if_neg hc2] at h
      refine q_icmp rfl (fun c => absurd (of_decide_eq_true c) hc2) (fun _ => ?_)
      refine q_go 1 (pc' := 10) (ls' := [.ref 0, .int a0]) (st' := [.int (-1 : Int32)]) (V' := V) rfl ?_
      obtain ⟨rfl, rfl⟩ := x_p2 h
      exact q_ret rfl rfl
def f_X6_back (a0 : Int32) (V : xV) : Option (Int32 × xV) := if a0 < 0 then (some ((-1 : Int32), V)) else (if a0 < (2 : Int32) then (if (((V 0 7) >>> (a0 &&& 31)) &&& 1) = 0 then (some ((-2 : Int32), V)) else (if x_in a0 2 = true then (x_b1 (x_tkW 5 (86 + 5 * (a0.toNatClampNeg)) V) (fun V6 => x_b1 (f_X0_loseAll V6) (fun V8 => x_b1 (f_X5_growStale V8) (fun V10 => some ((V10 2 0), V10))))) else none)) else (some ((-1 : Int32), V)))
theorem f_X6_back_ok {a0 : Int32} {V W : xV} {x : Int32} (h : f_X6_back a0 V = some (x, W)) : x_Rn (1) 89 [.ref 0, .int a0] V (some x) W := by
  refine ⟨2, kX6_back, rfl, ?_⟩
  show x_Ex (1) kX6_back 0 [.ref 0, .int a0] [] V (some x) W
  unfold f_X6_back at h
  refine q_go 1 (pc' := 1) (ls' := [.ref 0, .int a0]) (st' := [.int a0]) (V' := V) rfl ?_
  by_cases hc1 : a0 < 0
  · rw [if_pos hc1] at h
    refine q_if rfl (fun _ => ?_) (fun c => absurd hc1 (of_decide_eq_false c))
    refine q_go 1 (pc' := 10) (ls' := [.ref 0, .int a0]) (st' := [.int (-1 : Int32)]) (V' := V) rfl ?_
    obtain ⟨rfl, rfl⟩ := x_p2 h
    exact q_ret rfl rfl
  · rw [if_neg hc1] at h
    refine q_if rfl (fun c => absurd (of_decide_eq_true c) hc1) (fun _ => ?_)
    refine q_go 2 (pc' := 6) (ls' := [.ref 0, .int a0]) (st' := [.int (2 : Int32), .int a0]) (V' := V) rfl ?_
    by_cases hc2 : a0 < (2 : Int32)
    · rw [if_pos hc2] at h
      refine q_icmp rfl (fun _ => ?_) (fun c => absurd hc2 (of_decide_eq_false c))
      refine q_go 6 (pc' := 19) (ls' := [.ref 0, .int a0]) (st' := [.int (((V 0 7) >>> (a0 &&& 31)) &&& 1)]) (V' := V) rfl ?_
      by_cases hc3 : (((V 0 7) >>> (a0 &&& 31)) &&& 1) = 0
      · rw [if_pos hc3] at h
        refine q_if rfl (fun c => absurd hc3 (of_decide_eq_true c)) (fun _ => ?_)
        refine q_go 1 (pc' := 24) (ls' := [.ref 0, .int a0]) (st' := [.int (-2 : Int32)]) (V' := V) rfl ?_
        obtain ⟨rfl, rfl⟩ := x_p2 h
        exact q_ret rfl rfl
      · rw [if_neg hc3] at h
        refine q_if rfl (fun _ => ?_) (fun c => absurd hc3 (of_decide_eq_false c))
        refine q_go 5 (pc' := 34) (ls' := [.ref 0, .int a0]) (st' := [.int a0, .ref 71, .ref 5]) (V' := V) rfl ?_
        refine x_em (p := x_in a0 2 = true) (fun hz => by rw [if_neg hz] at h; cases h) (fun hc4 => ?_)
        rw [if_pos hc4] at h
        refine q_aald rfl rfl hc4 (x_aref71 hc4) ?_
        obtain ⟨V6, hc5, h⟩ := x_b1_eq h
        refine q_call (d := (0)) (as := [.ref 5, .ref (86 + 5 * (a0.toNatClampNeg))]) (pc' := 38) (ls' := [.ref 0, .int a0]) (st' := []) (r1 := none) rfl rfl ((x_tkW_ok (by unfold x_isW; decide) (x_isW71 hc4) hc5).up (by decide)) ?_
        refine q_go 2 (pc' := 42) (ls' := [.ref 0, .int a0]) (st' := [.ref 19]) (V' := V6) rfl ?_
        obtain ⟨V8, hc7, h⟩ := x_b1_eq h
        refine q_call (d := (0)) (as := [.ref 19]) (pc' := 45) (ls' := [.ref 0, .int a0]) (st' := []) (r1 := none) rfl rfl ((f_X0_loseAll_ok hc7).up (by decide)) ?_
        refine q_go 2 (pc' := 49) (ls' := [.ref 0, .int a0]) (st' := [.ref 73]) (V' := V8) rfl ?_
        obtain ⟨V10, hc9, h⟩ := x_b1_eq h
        refine q_call (d := (0)) (as := [.ref 73]) (pc' := 52) (ls' := [.ref 0, .int a0]) (st' := []) (r1 := none) rfl rfl ((f_X5_growStale_ok hc9).up (by decide)) ?_
        refine q_go 3 (pc' := 59) (ls' := [.ref 0, .int a0]) (st' := [.int (V10 2 0)]) (V' := V10) rfl ?_
        obtain ⟨rfl, rfl⟩ := x_p2 h
        exact q_ret rfl rfl
    · rw [if_neg hc2] at h
      refine q_icmp rfl (fun c => absurd (of_decide_eq_true c) hc2) (fun _ => ?_)
      refine q_go 1 (pc' := 10) (ls' := [.ref 0, .int a0]) (st' := [.int (-1 : Int32)]) (V' := V) rfl ?_
      obtain ⟨rfl, rfl⟩ := x_p2 h
      exact q_ret rfl rfl
def f_X4_barredPairs_5_L4 : Nat → (Int32 → Int32 → xV → Option (Int32 × xV)) → Int32 → Int32 → xV → Option (Int32 × xV)
  | 0, _, _, _, _ => none
  | n + 1, k, l1, l2, V => if (6 : Int32) ≤ l2 then (k l1 l2 V) else (if x_in l2 6 = true then (x_b2 (f_J6_bitCount (V 9 (l2.toNatClampNeg)) V) (fun x5 V4 => f_X4_barredPairs_5_L4 n k (l1 + x5) (l2 + (1 : Int32)) V4)) else none)
theorem f_X4_barredPairs_5_L4_ok {k : Int32 → Int32 → xV → Option (Int32 × xV)} {x : Int32} {W : xV} (hk : ∀ (l1 : Int32) (l2 : Int32) (V : xV), k l1 l2 V = some (x, W) → x_Ex (1) kX4_barredPairs 28 [.ref 5, .int l1, .int l2] [] V (some x) W) : ∀ (n : Nat) (l1 : Int32) (l2 : Int32) (V : xV), f_X4_barredPairs_5_L4 n k l1 l2 V = some (x, W) → x_Ex (1) kX4_barredPairs 4 [.ref 5, .int l1, .int l2] [] V (some x) W := by
  intro n
  induction n with
  | zero => intro l1 l2 V  h; cases h
  | succ n ih =>
    intro l1 l2 V  h
    unfold f_X4_barredPairs_5_L4 at h
    refine q_go 2 (pc' := 7) (ls' := [.ref 5, .int l1, .int l2]) (st' := [.int (6 : Int32), .int l2]) (V' := V) rfl ?_
    by_cases hc1 : (6 : Int32) ≤ l2
    · rw [if_pos hc1] at h
      refine q_icmp rfl (fun _ => ?_) (fun c => absurd hc1 (of_decide_eq_false c))
      exact hk l1 l2 V  h
    · rw [if_neg hc1] at h
      refine q_icmp rfl (fun c => absurd (of_decide_eq_true c) hc1) (fun _ => ?_)
      refine q_go 4 (pc' := 16) (ls' := [.ref 5, .int l1, .int l2]) (st' := [.int l2, .ref 9, .int l1]) (V' := V) rfl ?_
      refine x_em (p := x_in l2 6 = true) (fun hz => by rw [if_neg hz] at h; cases h) (fun hc2 => ?_)
      rw [if_pos hc2] at h
      refine q_ald (Or.inl ⟨rfl, rfl⟩) rfl hc2 ?_
      obtain ⟨x5, V4, hc3, h⟩ := x_b2_eq h
      refine q_call (d := (0)) (as := [.int (V 9 (l2.toNatClampNeg))]) (pc' := 20) (ls' := [.ref 5, .int l1, .int l2]) (st' := [.int l1]) (r1 := some x5) rfl rfl ((f_J6_bitCount_ok hc3).up (by decide)) ?_
      refine q_go 4 (pc' := 4) (ls' := [.ref 5, .int (l1 + x5), .int (l2 + (1 : Int32))]) (st' := []) (V' := V4) rfl ?_
      exact ih (l1 + x5) (l2 + (1 : Int32)) V4  h
def f_X4_barredPairs_5 (V : xV) : Option (Int32 × xV) := f_X4_barredPairs_5_L4 300 (fun l1_6 l2_7 V8 => some ((l1_6 / (2 : Int32)), V8)) (0 : Int32) (0 : Int32) V
theorem f_X4_barredPairs_5_ok {V W : xV} {x : Int32} (h : f_X4_barredPairs_5 V = some (x, W)) : x_Rn (1) 52 [.ref 5] V (some x) W := by
  refine ⟨3, kX4_barredPairs, rfl, ?_⟩
  show x_Ex (1) kX4_barredPairs 0 [.ref 5, .long 0, .long 0] [] V (some x) W
  unfold f_X4_barredPairs_5 at h
  refine q_go 4 (pc' := 4) (ls' := [.ref 5, .int (0 : Int32), .int (0 : Int32)]) (st' := []) (V' := V) rfl ?_
  refine f_X4_barredPairs_5_L4_ok (fun l1_6 l2_7 V8 h => ?_) 300 (0 : Int32) (0 : Int32) V  h
  refine q_go 3 (pc' := 31) (ls' := [.ref 5, .int l1_6, .int l2_7]) (st' := [.int (l1_6 / (2 : Int32))]) (V' := V8) rfl ?_
  obtain ⟨rfl, rfl⟩ := x_p2 h
  exact q_ret rfl rfl
def f_X6_count (a0 : Int32) (V : xV) : Option (Int32 × xV) := if a0 = 0 then (some ((V 2 0), V)) else if a0 = 1 then (some ((V 2 1), V)) else if a0 = 2 then (some ((V 2 2), V)) else if a0 = 3 then (some ((V 5 4), V)) else if a0 = 4 then (x_b2 (f_X4_barredPairs_5 V) (fun x11 V10 => some (x11, V10))) else if a0 = 5 then (some ((V 0 9), V)) else if a0 = 6 then (some ((V 0 1), V)) else if a0 = 7 then (x_b2 (f_X0_known V) (fun x14 V13 => some (x14, V13))) else (some ((-1 : Int32), V))
theorem f_X6_count_ok {a0 : Int32} {V W : xV} {x : Int32} (h : f_X6_count a0 V = some (x, W)) : x_Rn (2) 90 [.ref 0, .int a0] V (some x) W := by
  refine ⟨2, kX6_count, rfl, ?_⟩
  show x_Ex (2) kX6_count 0 [.ref 0, .int a0] [] V (some x) W
  unfold f_X6_count at h
  refine q_go 1 (pc' := 1) (ls' := [.ref 0, .int a0]) (st' := [.int a0]) (V' := V) rfl ?_
  by_cases hc1 : a0 = 0
  · rw [if_pos hc1] at h
    refine q_step (pc' := 48) (ls' := [.ref 0, .int a0]) (st' := []) (V' := V) rfl (by show some (Sum.inl (x_sw [(0, 48), (1, 56), (2, 64), (3, 72), (4, 80), (5, 88), (6, 93), (7, 98)] a0 106, _)) = _; rw [x_sw_eq hc1.symm]) ?_
    refine q_go 3 (pc' := 55) (ls' := [.ref 0, .int a0]) (st' := [.int (V 2 0)]) (V' := V) rfl ?_
    obtain ⟨rfl, rfl⟩ := x_p2 h
    exact q_ret rfl rfl
  rw [if_neg hc1] at h
  by_cases hc2 : a0 = 1
  · rw [if_pos hc2] at h
    refine q_step (pc' := 56) (ls' := [.ref 0, .int a0]) (st' := []) (V' := V) rfl (by show some (Sum.inl (x_sw [(0, 48), (1, 56), (2, 64), (3, 72), (4, 80), (5, 88), (6, 93), (7, 98)] a0 106, _)) = _; rw [x_sw_ne (fun z => hc1 z.symm), x_sw_eq hc2.symm]) ?_
    refine q_go 3 (pc' := 63) (ls' := [.ref 0, .int a0]) (st' := [.int (V 2 1)]) (V' := V) rfl ?_
    obtain ⟨rfl, rfl⟩ := x_p2 h
    exact q_ret rfl rfl
  rw [if_neg hc2] at h
  by_cases hc3 : a0 = 2
  · rw [if_pos hc3] at h
    refine q_step (pc' := 64) (ls' := [.ref 0, .int a0]) (st' := []) (V' := V) rfl (by show some (Sum.inl (x_sw [(0, 48), (1, 56), (2, 64), (3, 72), (4, 80), (5, 88), (6, 93), (7, 98)] a0 106, _)) = _; rw [x_sw_ne (fun z => hc1 z.symm), x_sw_ne (fun z => hc2 z.symm), x_sw_eq hc3.symm]) ?_
    refine q_go 3 (pc' := 71) (ls' := [.ref 0, .int a0]) (st' := [.int (V 2 2)]) (V' := V) rfl ?_
    obtain ⟨rfl, rfl⟩ := x_p2 h
    exact q_ret rfl rfl
  rw [if_neg hc3] at h
  by_cases hc4 : a0 = 3
  · rw [if_pos hc4] at h
    refine q_step (pc' := 72) (ls' := [.ref 0, .int a0]) (st' := []) (V' := V) rfl (by show some (Sum.inl (x_sw [(0, 48), (1, 56), (2, 64), (3, 72), (4, 80), (5, 88), (6, 93), (7, 98)] a0 106, _)) = _; rw [x_sw_ne (fun z => hc1 z.symm), x_sw_ne (fun z => hc2 z.symm), x_sw_ne (fun z => hc3 z.symm), x_sw_eq hc4.symm]) ?_
    refine q_go 3 (pc' := 79) (ls' := [.ref 0, .int a0]) (st' := [.int (V 5 4)]) (V' := V) rfl ?_
    obtain ⟨rfl, rfl⟩ := x_p2 h
    exact q_ret rfl rfl
  rw [if_neg hc4] at h
  by_cases hc5 : a0 = 4
  · rw [if_pos hc5] at h
    refine q_step (pc' := 80) (ls' := [.ref 0, .int a0]) (st' := []) (V' := V) rfl (by show some (Sum.inl (x_sw [(0, 48), (1, 56), (2, 64), (3, 72), (4, 80), (5, 88), (6, 93), (7, 98)] a0 106, _)) = _; rw [x_sw_ne (fun z => hc1 z.symm), x_sw_ne (fun z => hc2 z.symm), x_sw_ne (fun z => hc3 z.symm), x_sw_ne (fun z => hc4 z.symm), x_sw_eq hc5.symm]) ?_
    refine q_go 2 (pc' := 84) (ls' := [.ref 0, .int a0]) (st' := [.ref 5]) (V' := V) rfl ?_
    obtain ⟨x11, V10, hc9, h⟩ := x_b2_eq h
    refine q_call (d := (1)) (as := [.ref 5]) (pc' := 87) (ls' := [.ref 0, .int a0]) (st' := []) (r1 := some x11) rfl rfl ((f_X4_barredPairs_5_ok hc9).up (by decide)) ?_
    obtain ⟨rfl, rfl⟩ := x_p2 h
    exact q_ret rfl rfl
  rw [if_neg hc5] at h
  by_cases hc6 : a0 = 5
  · rw [if_pos hc6] at h
    refine q_step (pc' := 88) (ls' := [.ref 0, .int a0]) (st' := []) (V' := V) rfl (by show some (Sum.inl (x_sw [(0, 48), (1, 56), (2, 64), (3, 72), (4, 80), (5, 88), (6, 93), (7, 98)] a0 106, _)) = _; rw [x_sw_ne (fun z => hc1 z.symm), x_sw_ne (fun z => hc2 z.symm), x_sw_ne (fun z => hc3 z.symm), x_sw_ne (fun z => hc4 z.symm), x_sw_ne (fun z => hc5 z.symm), x_sw_eq hc6.symm]) ?_
    refine q_go 2 (pc' := 92) (ls' := [.ref 0, .int a0]) (st' := [.int (V 0 9)]) (V' := V) rfl ?_
    obtain ⟨rfl, rfl⟩ := x_p2 h
    exact q_ret rfl rfl
  rw [if_neg hc6] at h
  by_cases hc7 : a0 = 6
  · rw [if_pos hc7] at h
    refine q_step (pc' := 93) (ls' := [.ref 0, .int a0]) (st' := []) (V' := V) rfl (by show some (Sum.inl (x_sw [(0, 48), (1, 56), (2, 64), (3, 72), (4, 80), (5, 88), (6, 93), (7, 98)] a0 106, _)) = _; rw [x_sw_ne (fun z => hc1 z.symm), x_sw_ne (fun z => hc2 z.symm), x_sw_ne (fun z => hc3 z.symm), x_sw_ne (fun z => hc4 z.symm), x_sw_ne (fun z => hc5 z.symm), x_sw_ne (fun z => hc6 z.symm), x_sw_eq hc7.symm]) ?_
    refine q_go 2 (pc' := 97) (ls' := [.ref 0, .int a0]) (st' := [.int (V 0 1)]) (V' := V) rfl ?_
    obtain ⟨rfl, rfl⟩ := x_p2 h
    exact q_ret rfl rfl
  rw [if_neg hc7] at h
  by_cases hc8 : a0 = 7
  · rw [if_pos hc8] at h
    refine q_step (pc' := 98) (ls' := [.ref 0, .int a0]) (st' := []) (V' := V) rfl (by show some (Sum.inl (x_sw [(0, 48), (1, 56), (2, 64), (3, 72), (4, 80), (5, 88), (6, 93), (7, 98)] a0 106, _)) = _; rw [x_sw_ne (fun z => hc1 z.symm), x_sw_ne (fun z => hc2 z.symm), x_sw_ne (fun z => hc3 z.symm), x_sw_ne (fun z => hc4 z.symm), x_sw_ne (fun z => hc5 z.symm), x_sw_ne (fun z => hc6 z.symm), x_sw_ne (fun z => hc7 z.symm), x_sw_eq hc8.symm]) ?_
    refine q_go 2 (pc' := 102) (ls' := [.ref 0, .int a0]) (st' := [.ref 19]) (V' := V) rfl ?_
    obtain ⟨x14, V13, hc12, h⟩ := x_b2_eq h
    refine q_call (d := (1)) (as := [.ref 19]) (pc' := 105) (ls' := [.ref 0, .int a0]) (st' := []) (r1 := some x14) rfl rfl ((f_X0_known_ok hc12).up (by decide)) ?_
    obtain ⟨rfl, rfl⟩ := x_p2 h
    exact q_ret rfl rfl
  rw [if_neg hc8] at h
  refine q_step (pc' := 106) (ls' := [.ref 0, .int a0]) (st' := []) (V' := V) rfl (by show some (Sum.inl (x_sw [(0, 48), (1, 56), (2, 64), (3, 72), (4, 80), (5, 88), (6, 93), (7, 98)] a0 106, _)) = _; rw [x_sw_ne (fun z => hc1 z.symm), x_sw_ne (fun z => hc2 z.symm), x_sw_ne (fun z => hc3 z.symm), x_sw_ne (fun z => hc4 z.symm), x_sw_ne (fun z => hc5 z.symm), x_sw_ne (fun z => hc6 z.symm), x_sw_ne (fun z => hc7 z.symm), x_sw_ne (fun z => hc8 z.symm), x_sw_nil]) ?_
  refine q_go 1 (pc' := 107) (ls' := [.ref 0, .int a0]) (st' := [.int (-1 : Int32)]) (V' := V) rfl ?_
  obtain ⟨rfl, rfl⟩ := x_p2 h
  exact q_ret rfl rfl
