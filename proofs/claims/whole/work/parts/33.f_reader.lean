def f_X3_beAsAtFirst_11 (V : xV) : Option (xV) := x_b1 (x_filA 12 6 (0 : Int32) (x_up (x_up (x_up V 11 0 (0 : Int32)) 11 1 (4 : Int32)) 11 2 (2 : Int32))) (fun V2 => x_b1 (x_filA 13 4 (5 : Int32) V2) (fun V4 => some V4))
theorem f_X3_beAsAtFirst_11_ok {V W : xV}  (h : f_X3_beAsAtFirst_11 V = some W) : x_Rn (1) 38 [.ref 11] V none W := by
  refine ⟨1, kX3_beAsAtFirst, rfl, ?_⟩
  show x_Ex (1) kX3_beAsAtFirst 0 [.ref 11] [] V none W
  unfold f_X3_beAsAtFirst_11 at h
  refine q_go 12 (pc' := 20) (ls' := [.ref 11]) (st' := [.int (0 : Int32), .ref 12]) (V' := (x_up (x_up (x_up V 11 0 (0 : Int32)) 11 1 (4 : Int32)) 11 2 (2 : Int32))) rfl ?_
  obtain ⟨V2, hc1, h⟩ := x_b1_eq h
  refine q_call (d := (0)) (as := [.ref 12, .int (0 : Int32)]) (pc' := 23) (ls' := [.ref 11]) (st' := []) (r1 := none) rfl rfl ((x_filA_ok rfl (by decide) hc1).up (by decide)) ?_
  refine q_go 3 (pc' := 28) (ls' := [.ref 11]) (st' := [.int (5 : Int32), .ref 13]) (V' := V2) rfl ?_
  obtain ⟨V4, hc3, h⟩ := x_b1_eq h
  refine q_call (d := (0)) (as := [.ref 13, .int (5 : Int32)]) (pc' := 31) (ls' := [.ref 11]) (st' := []) (r1 := none) rfl rfl ((x_filA_ok rfl (by decide) hc3).up (by decide)) ?_
  obtain rfl := Option.some.inj h
  exact q_ret rfl rfl
def f_X4_beAsAtFirst_14 (V : xV) : Option (xV) := x_b1 (x_filA 15 8 (-9 : Int32) V) (fun V2 => x_b1 (x_filA 16 6 (-9 : Int32) V2) (fun V4 => x_b1 (x_filA 17 6 (-9 : Int32) V4) (fun V6 => x_b1 (x_filA 18 6 (0 : Int32) V6) (fun V8 => some (x_up V8 14 4 (15 : Int32))))))
theorem f_X4_beAsAtFirst_14_ok {V W : xV}  (h : f_X4_beAsAtFirst_14 V = some W) : x_Rn (1) 44 [.ref 14] V none W := by
  refine ⟨1, kX4_beAsAtFirst, rfl, ?_⟩
  show x_Ex (1) kX4_beAsAtFirst 0 [.ref 14] [] V none W
  unfold f_X4_beAsAtFirst_14 at h
  refine q_go 3 (pc' := 6) (ls' := [.ref 14]) (st' := [.int (-9 : Int32), .ref 15]) (V' := V) rfl ?_
  obtain ⟨V2, hc1, h⟩ := x_b1_eq h
  refine q_call (d := (0)) (as := [.ref 15, .int (-9 : Int32)]) (pc' := 9) (ls' := [.ref 14]) (st' := []) (r1 := none) rfl rfl ((x_filA_ok rfl (by decide) hc1).up (by decide)) ?_
  refine q_go 3 (pc' := 15) (ls' := [.ref 14]) (st' := [.int (-9 : Int32), .ref 16]) (V' := V2) rfl ?_
  obtain ⟨V4, hc3, h⟩ := x_b1_eq h
  refine q_call (d := (0)) (as := [.ref 16, .int (-9 : Int32)]) (pc' := 18) (ls' := [.ref 14]) (st' := []) (r1 := none) rfl rfl ((x_filA_ok rfl (by decide) hc3).up (by decide)) ?_
  refine q_go 3 (pc' := 24) (ls' := [.ref 14]) (st' := [.int (-9 : Int32), .ref 17]) (V' := V4) rfl ?_
  obtain ⟨V6, hc5, h⟩ := x_b1_eq h
  refine q_call (d := (0)) (as := [.ref 17, .int (-9 : Int32)]) (pc' := 27) (ls' := [.ref 14]) (st' := []) (r1 := none) rfl rfl ((x_filA_ok rfl (by decide) hc5).up (by decide)) ?_
  refine q_go 3 (pc' := 32) (ls' := [.ref 14]) (st' := [.int (0 : Int32), .ref 18]) (V' := V6) rfl ?_
  obtain ⟨V8, hc7, h⟩ := x_b1_eq h
  refine q_call (d := (0)) (as := [.ref 18, .int (0 : Int32)]) (pc' := 35) (ls' := [.ref 14]) (st' := []) (r1 := none) rfl rfl ((x_filA_ok rfl (by decide) hc7).up (by decide)) ?_
  refine q_go 3 (pc' := 41) (ls' := [.ref 14]) (st' := []) (V' := (x_up V8 14 4 (15 : Int32))) rfl ?_
  obtain rfl := Option.some.inj h
  exact q_ret rfl rfl
def f_X1_isFigure (a0 : Int32) (V : xV) : Option (Int32 × xV) := if a0 < (48 : Int32) then (some ((0 : Int32), V)) else (if (57 : Int32) < a0 then (some ((0 : Int32), V)) else (some ((1 : Int32), V)))
theorem f_X1_isFigure_ok {a0 : Int32} {V W : xV} {x : Int32} (h : f_X1_isFigure a0 V = some (x, W)) : x_Rn (0) 19 [.int a0] V (some x) W := by
  refine ⟨1, kX1_isFigure, rfl, ?_⟩
  show x_Ex (0) kX1_isFigure 0 [.int a0] [] V (some x) W
  unfold f_X1_isFigure at h
  refine q_go 2 (pc' := 3) (ls' := [.int a0]) (st' := [.int (48 : Int32), .int a0]) (V' := V) rfl ?_
  by_cases hc1 : a0 < (48 : Int32)
  · rw [if_pos hc1] at h
    refine q_icmp rfl (fun _ => ?_) (fun c => absurd hc1 (of_decide_eq_false c))
    refine q_go 1 (pc' := 17) (ls' := [.int a0]) (st' := [.int (0 : Int32)]) (V' := V) rfl ?_
    obtain ⟨rfl, rfl⟩ := x_p2 h
    exact q_ret rfl rfl
  · rw [if_neg hc1] at h
    refine q_icmp rfl (fun c => absurd (of_decide_eq_true c) hc1) (fun _ => ?_)
    refine q_go 2 (pc' := 9) (ls' := [.int a0]) (st' := [.int (57 : Int32), .int a0]) (V' := V) rfl ?_
    by_cases hc2 : (57 : Int32) < a0
    · rw [if_pos hc2] at h
      refine q_icmp rfl (fun _ => ?_) (fun c => absurd hc2 (of_decide_eq_false c))
      refine q_go 1 (pc' := 17) (ls' := [.int a0]) (st' := [.int (0 : Int32)]) (V' := V) rfl ?_
      obtain ⟨rfl, rfl⟩ := x_p2 h
      exact q_ret rfl rfl
    · rw [if_neg hc2] at h
      refine q_icmp rfl (fun c => absurd (of_decide_eq_true c) hc2) (fun _ => ?_)
      refine q_go 2 (pc' := 17) (ls' := [.int a0]) (st' := [.int (1 : Int32)]) (V' := V) rfl ?_
      obtain ⟨rfl, rfl⟩ := x_p2 h
      exact q_ret rfl rfl
def f_X1_isSign (a0 : Int32) (V : xV) : Option (Int32 × xV) := if a0 = (99 : Int32) then (some ((1 : Int32), V)) else (if a0 = (108 : Int32) then (some ((1 : Int32), V)) else (if a0 = (116 : Int32) then (some ((1 : Int32), V)) else (if a0 = (120 : Int32) then (some ((1 : Int32), V)) else (if a0 = (97 : Int32) then (some ((1 : Int32), V)) else (if a0 = (59 : Int32) then (some ((1 : Int32), V)) else (some ((0 : Int32), V)))))))
theorem f_X1_isSign_ok {a0 : Int32} {V W : xV} {x : Int32} (h : f_X1_isSign a0 V = some (x, W)) : x_Rn (0) 20 [.int a0] V (some x) W := by
  refine ⟨1, kX1_isSign, rfl, ?_⟩
  show x_Ex (0) kX1_isSign 0 [.int a0] [] V (some x) W
  unfold f_X1_isSign at h
  refine q_go 2 (pc' := 3) (ls' := [.int a0]) (st' := [.int (99 : Int32), .int a0]) (V' := V) rfl ?_
  by_cases hc1 : a0 = (99 : Int32)
  · rw [if_pos hc1] at h
    refine q_icmp rfl (fun _ => ?_) (fun c => absurd hc1 (of_decide_eq_false c))
    refine q_go 2 (pc' := 41) (ls' := [.int a0]) (st' := [.int (1 : Int32)]) (V' := V) rfl ?_
    obtain ⟨rfl, rfl⟩ := x_p2 h
    exact q_ret rfl rfl
  · rw [if_neg hc1] at h
    refine q_icmp rfl (fun c => absurd (of_decide_eq_true c) hc1) (fun _ => ?_)
    refine q_go 2 (pc' := 9) (ls' := [.int a0]) (st' := [.int (108 : Int32), .int a0]) (V' := V) rfl ?_
    by_cases hc2 : a0 = (108 : Int32)
    · rw [if_pos hc2] at h
      refine q_icmp rfl (fun _ => ?_) (fun c => absurd hc2 (of_decide_eq_false c))
      refine q_go 2 (pc' := 41) (ls' := [.int a0]) (st' := [.int (1 : Int32)]) (V' := V) rfl ?_
      obtain ⟨rfl, rfl⟩ := x_p2 h
      exact q_ret rfl rfl
    · rw [if_neg hc2] at h
      refine q_icmp rfl (fun c => absurd (of_decide_eq_true c) hc2) (fun _ => ?_)
      refine q_go 2 (pc' := 15) (ls' := [.int a0]) (st' := [.int (116 : Int32), .int a0]) (V' := V) rfl ?_
      by_cases hc3 : a0 = (116 : Int32)
      · rw [if_pos hc3] at h
        refine q_icmp rfl (fun _ => ?_) (fun c => absurd hc3 (of_decide_eq_false c))
        refine q_go 2 (pc' := 41) (ls' := [.int a0]) (st' := [.int (1 : Int32)]) (V' := V) rfl ?_
        obtain ⟨rfl, rfl⟩ := x_p2 h
        exact q_ret rfl rfl
      · rw [if_neg hc3] at h
        refine q_icmp rfl (fun c => absurd (of_decide_eq_true c) hc3) (fun _ => ?_)
        refine q_go 2 (pc' := 21) (ls' := [.int a0]) (st' := [.int (120 : Int32), .int a0]) (V' := V) rfl ?_
        by_cases hc4 : a0 = (120 : Int32)
        · rw [if_pos hc4] at h
          refine q_icmp rfl (fun _ => ?_) (fun c => absurd hc4 (of_decide_eq_false c))
          refine q_go 2 (pc' := 41) (ls' := [.int a0]) (st' := [.int (1 : Int32)]) (V' := V) rfl ?_
          obtain ⟨rfl, rfl⟩ := x_p2 h
          exact q_ret rfl rfl
        · rw [if_neg hc4] at h
          refine q_icmp rfl (fun c => absurd (of_decide_eq_true c) hc4) (fun _ => ?_)
          refine q_go 2 (pc' := 27) (ls' := [.int a0]) (st' := [.int (97 : Int32), .int a0]) (V' := V) rfl ?_
          by_cases hc5 : a0 = (97 : Int32)
          · rw [if_pos hc5] at h
            refine q_icmp rfl (fun _ => ?_) (fun c => absurd hc5 (of_decide_eq_false c))
            refine q_go 2 (pc' := 41) (ls' := [.int a0]) (st' := [.int (1 : Int32)]) (V' := V) rfl ?_
            obtain ⟨rfl, rfl⟩ := x_p2 h
            exact q_ret rfl rfl
          · rw [if_neg hc5] at h
            refine q_icmp rfl (fun c => absurd (of_decide_eq_true c) hc5) (fun _ => ?_)
            refine q_go 2 (pc' := 33) (ls' := [.int a0]) (st' := [.int (59 : Int32), .int a0]) (V' := V) rfl ?_
            by_cases hc6 : a0 = (59 : Int32)
            · rw [if_pos hc6] at h
              refine q_icmp rfl (fun c => absurd hc6 (of_decide_eq_true c)) (fun _ => ?_)
              refine q_go 2 (pc' := 41) (ls' := [.int a0]) (st' := [.int (1 : Int32)]) (V' := V) rfl ?_
              obtain ⟨rfl, rfl⟩ := x_p2 h
              exact q_ret rfl rfl
            · rw [if_neg hc6] at h
              refine q_icmp rfl (fun _ => ?_) (fun c => absurd hc6 (of_decide_eq_false c))
              refine q_go 1 (pc' := 41) (ls' := [.int a0]) (st' := [.int (0 : Int32)]) (V' := V) rfl ?_
              obtain ⟨rfl, rfl⟩ := x_p2 h
              exact q_ret rfl rfl
def f_X1_advanceOverNumber_L7 : Nat → (Int32 → xV → Option (xV)) → Int32 → xV → Option (xV)
  | 0, _, _, _ => none
  | n + 1, k, l1, V => if (V 10 3) ≤ (V 10 4) then (k l1 V) else (if x_in (V 10 4) 100 = true then (x_b2 (f_X1_isFigure (V 1 ((V 10 4).toNatClampNeg)) V) (fun x5 V4 => if x5 = 0 then (k l1 V4) else (if l1 = 0 then (if x_in (V4 10 4) 100 = true then (f_X1_advanceOverNumber_L7 n k (0 : Int32) (x_up (x_up V4 10 7 (if (100 : Int32) < ((((10 : Int32) * (V4 10 7)) + (V4 1 ((V4 10 4).toNatClampNeg))) - 48) then (100 : Int32) else ((((10 : Int32) * (V4 10 7)) + (V4 1 ((V4 10 4).toNatClampNeg))) - 48))) 10 4 ((V4 10 4) + 1))) else none) else (if (V4 10 4) = (V4 10 5) then (if x_in (V4 10 4) 100 = true then (f_X1_advanceOverNumber_L7 n k (1 : Int32) (x_up (x_up V4 10 7 (if (100 : Int32) < ((((10 : Int32) * (V4 10 7)) + (V4 1 ((V4 10 4).toNatClampNeg))) - 48) then (100 : Int32) else ((((10 : Int32) * (V4 10 7)) + (V4 1 ((V4 10 4).toNatClampNeg))) - 48))) 10 4 ((V4 10 4) + 1))) else none) else (if (V4 10 7) ≤ 0 then (if x_in (V4 10 4) 100 = true then (f_X1_advanceOverNumber_L7 n k (0 : Int32) (x_up (x_up V4 10 7 (if (100 : Int32) < ((((10 : Int32) * (V4 10 7)) + (V4 1 ((V4 10 4).toNatClampNeg))) - 48) then (100 : Int32) else ((((10 : Int32) * (V4 10 7)) + (V4 1 ((V4 10 4).toNatClampNeg))) - 48))) 10 4 ((V4 10 4) + 1))) else none) else (if x_in (V4 10 4) 100 = true then (f_X1_advanceOverNumber_L7 n k (1 : Int32) (x_up (x_up V4 10 7 (if (100 : Int32) < ((((10 : Int32) * (V4 10 7)) + (V4 1 ((V4 10 4).toNatClampNeg))) - 48) then (100 : Int32) else ((((10 : Int32) * (V4 10 7)) + (V4 1 ((V4 10 4).toNatClampNeg))) - 48))) 10 4 ((V4 10 4) + 1))) else none)))))) else none)
theorem f_X1_advanceOverNumber_L7_ok {k : Int32 → xV → Option (xV)}  {W : xV} (hk : ∀ (l1 : Int32) (V : xV), k l1 V = some W → x_Ex (1) kX1_advanceOverNumber 103 [.ref 10, .int l1] [] V none W) : ∀ (n : Nat) (l1 : Int32) (V : xV), f_X1_advanceOverNumber_L7 n k l1 V = some W → x_Ex (1) kX1_advanceOverNumber 7 [.ref 10, .int l1] [] V none W := by
  intro n
  induction n with
  | zero => intro l1 V  h; cases h
  | succ n ih =>
    intro l1 V  h
    unfold f_X1_advanceOverNumber_L7 at h
    refine q_go 4 (pc' := 15) (ls' := [.ref 10, .int l1]) (st' := [.int (V 10 3), .int (V 10 4)]) (V' := V) rfl ?_
    by_cases hc1 : (V 10 3) ≤ (V 10 4)
    · rw [if_pos hc1] at h
      refine q_icmp rfl (fun _ => ?_) (fun c => absurd hc1 (of_decide_eq_false c))
      exact hk l1 V  h
    · rw [if_neg hc1] at h
      refine q_icmp rfl (fun c => absurd (of_decide_eq_true c) hc1) (fun _ => ?_)
      refine q_go 4 (pc' := 26) (ls' := [.ref 10, .int l1]) (st' := [.int (V 10 4), .ref 1]) (V' := V) rfl ?_
      refine x_em (p := x_in (V 10 4) 100 = true) (fun hz => by rw [if_neg hz] at h; cases h) (fun hc2 => ?_)
      rw [if_pos hc2] at h
      refine q_ald (Or.inl ⟨rfl, rfl⟩) rfl hc2 ?_
      obtain ⟨x5, V4, hc3, h⟩ := x_b2_eq h
      refine q_call (d := (0)) (as := [.int (V 1 ((V 10 4).toNatClampNeg))]) (pc' := 30) (ls' := [.ref 10, .int l1]) (st' := []) (r1 := some x5) rfl rfl ((f_X1_isFigure_ok hc3).up (by decide)) ?_
      by_cases hc6 : x5 = 0
      · rw [if_pos hc6] at h
        refine q_if rfl (fun _ => ?_) (fun c => absurd hc6 (of_decide_eq_false c))
        exact hk l1 V4  h
      · rw [if_neg hc6] at h
        refine q_if rfl (fun c => absurd (of_decide_eq_true c) hc6) (fun _ => ?_)
        refine q_go 1 (pc' := 34) (ls' := [.ref 10, .int l1]) (st' := [.int l1]) (V' := V4) rfl ?_
        by_cases hc7 : l1 = 0
        · rw [if_pos hc7] at h
          refine q_if rfl (fun _ => ?_) (fun c => absurd hc7 (of_decide_eq_false c))
          refine q_go 11 (pc' := 77) (ls' := [.ref 10, .int (0 : Int32)]) (st' := [.int (V4 10 4), .ref 1, .int ((10 : Int32) * (V4 10 7)), .ref 10]) (V' := V4) rfl ?_
          refine x_em (p := x_in (V4 10 4) 100 = true) (fun hz => by rw [if_neg hz] at h; cases h) (fun hc8 => ?_)
          rw [if_pos hc8] at h
          refine q_ald (Or.inl ⟨rfl, rfl⟩) rfl hc8 ?_
          refine q_go 13 (pc' := 7) (ls' := [.ref 10, .int (0 : Int32)]) (st' := []) (V' := (x_up (x_up V4 10 7 (if (100 : Int32) < ((((10 : Int32) * (V4 10 7)) + (V4 1 ((V4 10 4).toNatClampNeg))) - 48) then (100 : Int32) else ((((10 : Int32) * (V4 10 7)) + (V4 1 ((V4 10 4).toNatClampNeg))) - 48))) 10 4 ((V4 10 4) + 1))) rfl ?_
          exact ih (0 : Int32) (x_up (x_up V4 10 7 (if (100 : Int32) < ((((10 : Int32) * (V4 10 7)) + (V4 1 ((V4 10 4).toNatClampNeg))) - 48) then (100 : Int32) else ((((10 : Int32) * (V4 10 7)) + (V4 1 ((V4 10 4).toNatClampNeg))) - 48))) 10 4 ((V4 10 4) + 1))  h
        · rw [if_neg hc7] at h
          refine q_if rfl (fun c => absurd (of_decide_eq_true c) hc7) (fun _ => ?_)
          refine q_go 4 (pc' := 45) (ls' := [.ref 10, .int l1]) (st' := [.int (V4 10 5), .int (V4 10 4)]) (V' := V4) rfl ?_
          by_cases hc9 : (V4 10 4) = (V4 10 5)
          · rw [if_pos hc9] at h
            refine q_icmp rfl (fun _ => ?_) (fun c => absurd hc9 (of_decide_eq_false c))
            refine q_go 12 (pc' := 77) (ls' := [.ref 10, .int (1 : Int32)]) (st' := [.int (V4 10 4), .ref 1, .int ((10 : Int32) * (V4 10 7)), .ref 10]) (V' := V4) rfl ?_
            refine x_em (p := x_in (V4 10 4) 100 = true) (fun hz => by rw [if_neg hz] at h; cases h) (fun hc10 => ?_)
            rw [if_pos hc10] at h
            refine q_ald (Or.inl ⟨rfl, rfl⟩) rfl hc10 ?_
            refine q_go 13 (pc' := 7) (ls' := [.ref 10, .int (1 : Int32)]) (st' := []) (V' := (x_up (x_up V4 10 7 (if (100 : Int32) < ((((10 : Int32) * (V4 10 7)) + (V4 1 ((V4 10 4).toNatClampNeg))) - 48) then (100 : Int32) else ((((10 : Int32) * (V4 10 7)) + (V4 1 ((V4 10 4).toNatClampNeg))) - 48))) 10 4 ((V4 10 4) + 1))) rfl ?_
            exact ih (1 : Int32) (x_up (x_up V4 10 7 (if (100 : Int32) < ((((10 : Int32) * (V4 10 7)) + (V4 1 ((V4 10 4).toNatClampNeg))) - 48) then (100 : Int32) else ((((10 : Int32) * (V4 10 7)) + (V4 1 ((V4 10 4).toNatClampNeg))) - 48))) 10 4 ((V4 10 4) + 1))  h
          · rw [if_neg hc9] at h
            refine q_icmp rfl (fun c => absurd (of_decide_eq_true c) hc9) (fun _ => ?_)
            refine q_go 2 (pc' := 52) (ls' := [.ref 10, .int l1]) (st' := [.int (V4 10 7)]) (V' := V4) rfl ?_
            by_cases hc11 : (V4 10 7) ≤ 0
            · rw [if_pos hc11] at h
              refine q_if rfl (fun _ => ?_) (fun c => absurd hc11 (of_decide_eq_false c))
              refine q_go 11 (pc' := 77) (ls' := [.ref 10, .int (0 : Int32)]) (st' := [.int (V4 10 4), .ref 1, .int ((10 : Int32) * (V4 10 7)), .ref 10]) (V' := V4) rfl ?_
              refine x_em (p := x_in (V4 10 4) 100 = true) (fun hz => by rw [if_neg hz] at h; cases h) (fun hc12 => ?_)
              rw [if_pos hc12] at h
              refine q_ald (Or.inl ⟨rfl, rfl⟩) rfl hc12 ?_
              refine q_go 13 (pc' := 7) (ls' := [.ref 10, .int (0 : Int32)]) (st' := []) (V' := (x_up (x_up V4 10 7 (if (100 : Int32) < ((((10 : Int32) * (V4 10 7)) + (V4 1 ((V4 10 4).toNatClampNeg))) - 48) then (100 : Int32) else ((((10 : Int32) * (V4 10 7)) + (V4 1 ((V4 10 4).toNatClampNeg))) - 48))) 10 4 ((V4 10 4) + 1))) rfl ?_
              exact ih (0 : Int32) (x_up (x_up V4 10 7 (if (100 : Int32) < ((((10 : Int32) * (V4 10 7)) + (V4 1 ((V4 10 4).toNatClampNeg))) - 48) then (100 : Int32) else ((((10 : Int32) * (V4 10 7)) + (V4 1 ((V4 10 4).toNatClampNeg))) - 48))) 10 4 ((V4 10 4) + 1))  h
            · rw [if_neg hc11] at h
              refine q_if rfl (fun c => absurd (of_decide_eq_true c) hc11) (fun _ => ?_)
              refine q_go 12 (pc' := 77) (ls' := [.ref 10, .int (1 : Int32)]) (st' := [.int (V4 10 4), .ref 1, .int ((10 : Int32) * (V4 10 7)), .ref 10]) (V' := V4) rfl ?_
              refine x_em (p := x_in (V4 10 4) 100 = true) (fun hz => by rw [if_neg hz] at h; cases h) (fun hc13 => ?_)
              rw [if_pos hc13] at h
              refine q_ald (Or.inl ⟨rfl, rfl⟩) rfl hc13 ?_
              refine q_go 13 (pc' := 7) (ls' := [.ref 10, .int (1 : Int32)]) (st' := []) (V' := (x_up (x_up V4 10 7 (if (100 : Int32) < ((((10 : Int32) * (V4 10 7)) + (V4 1 ((V4 10 4).toNatClampNeg))) - 48) then (100 : Int32) else ((((10 : Int32) * (V4 10 7)) + (V4 1 ((V4 10 4).toNatClampNeg))) - 48))) 10 4 ((V4 10 4) + 1))) rfl ?_
              exact ih (1 : Int32) (x_up (x_up V4 10 7 (if (100 : Int32) < ((((10 : Int32) * (V4 10 7)) + (V4 1 ((V4 10 4).toNatClampNeg))) - 48) then (100 : Int32) else ((((10 : Int32) * (V4 10 7)) + (V4 1 ((V4 10 4).toNatClampNeg))) - 48))) 10 4 ((V4 10 4) + 1))  h
def f_X1_advanceOverNumber (V : xV) : Option (xV) := f_X1_advanceOverNumber_L7 300 (fun l1_14 V15 => if l1_14 = 0 then (some (x_up V15 10 6 (-3 : Int32))) else (if (99 : Int32) < (V15 10 7) then (some (x_up V15 10 6 (-3 : Int32))) else (some (x_up V15 10 6 (-2 : Int32))))) (1 : Int32) (x_up V 10 7 (0 : Int32))
theorem f_X1_advanceOverNumber_ok {V W : xV}  (h : f_X1_advanceOverNumber V = some W) : x_Rn (1) 18 [.ref 10] V none W := by
  refine ⟨2, kX1_advanceOverNumber, rfl, ?_⟩
  show x_Ex (1) kX1_advanceOverNumber 0 [.ref 10, .long 0] [] V none W
  unfold f_X1_advanceOverNumber at h
  refine q_go 5 (pc' := 7) (ls' := [.ref 10, .int (1 : Int32)]) (st' := []) (V' := (x_up V 10 7 (0 : Int32))) rfl ?_
  refine f_X1_advanceOverNumber_L7_ok (fun l1_14 V15 h => ?_) 300 (1 : Int32) (x_up V 10 7 (0 : Int32))  h
  refine q_go 2 (pc' := 105) (ls' := [.ref 10, .int l1_14]) (st' := [.int l1_14, .ref 10]) (V' := V15) rfl ?_
  by_cases hc16 : l1_14 = 0
  · rw [if_pos hc16] at h
    refine q_if rfl (fun _ => ?_) (fun c => absurd hc16 (of_decide_eq_false c))
    refine q_go 2 (pc' := 127) (ls' := [.ref 10, .int l1_14]) (st' := []) (V' := (x_up V15 10 6 (-3 : Int32))) rfl ?_
    obtain rfl := Option.some.inj h
    exact q_ret rfl rfl
  · rw [if_neg hc16] at h
    refine q_if rfl (fun c => absurd (of_decide_eq_true c) hc16) (fun _ => ?_)
    refine q_go 3 (pc' := 114) (ls' := [.ref 10, .int l1_14]) (st' := [.int (99 : Int32), .int (V15 10 7), .ref 10]) (V' := V15) rfl ?_
    by_cases hc17 : (99 : Int32) < (V15 10 7)
    · rw [if_pos hc17] at h
      refine q_icmp rfl (fun _ => ?_) (fun c => absurd hc17 (of_decide_eq_false c))
      refine q_go 2 (pc' := 127) (ls' := [.ref 10, .int l1_14]) (st' := []) (V' := (x_up V15 10 6 (-3 : Int32))) rfl ?_
      obtain rfl := Option.some.inj h
      exact q_ret rfl rfl
    · rw [if_neg hc17] at h
      refine q_icmp rfl (fun c => absurd (of_decide_eq_true c) hc17) (fun _ => ?_)
      refine q_go 3 (pc' := 127) (ls' := [.ref 10, .int l1_14]) (st' := []) (V' := (x_up V15 10 6 (-2 : Int32))) rfl ?_
      obtain rfl := Option.some.inj h
      exact q_ret rfl rfl
def f_X1_advance_L0 : Nat → (xV → Option (xV)) → xV → Option (xV)
  | 0, _, _ => none
  | n + 1, k, V => if (V 10 3) ≤ (V 10 4) then (k  V) else (if x_in (V 10 4) 100 = true then (if (V 1 ((V 10 4).toNatClampNeg)) = (32 : Int32) then (f_X1_advance_L0 n k  (x_up V 10 4 ((V 10 4) + 1))) else (k  V)) else none)
theorem f_X1_advance_L0_ok {k : xV → Option (xV)}  {W : xV} (hk : ∀ (V : xV), k  V = some W → x_Ex (2) kX1_advance 38 [.ref 10] [] V none W) : ∀ (n : Nat) (V : xV), f_X1_advance_L0 n k  V = some W → x_Ex (2) kX1_advance 0 [.ref 10] [] V none W := by
  intro n
  induction n with
  | zero => intro  V  h; cases h
  | succ n ih =>
    intro  V  h
    unfold f_X1_advance_L0 at h
    refine q_go 4 (pc' := 8) (ls' := [.ref 10]) (st' := [.int (V 10 3), .int (V 10 4)]) (V' := V) rfl ?_
    by_cases hc1 : (V 10 3) ≤ (V 10 4)
    · rw [if_pos hc1] at h
      refine q_icmp rfl (fun _ => ?_) (fun c => absurd hc1 (of_decide_eq_false c))
      exact hk  V  h
    · rw [if_neg hc1] at h
      refine q_icmp rfl (fun c => absurd (of_decide_eq_true c) hc1) (fun _ => ?_)
      refine q_go 4 (pc' := 19) (ls' := [.ref 10]) (st' := [.int (V 10 4), .ref 1]) (V' := V) rfl ?_
      refine x_em (p := x_in (V 10 4) 100 = true) (fun hz => by rw [if_neg hz] at h; cases h) (fun hc2 => ?_)
      rw [if_pos hc2] at h
      refine q_ald (Or.inl ⟨rfl, rfl⟩) rfl hc2 ?_
      refine q_go 1 (pc' := 22) (ls' := [.ref 10]) (st' := [.int (32 : Int32), .int (V 1 ((V 10 4).toNatClampNeg))]) (V' := V) rfl ?_
      by_cases hc3 : (V 1 ((V 10 4).toNatClampNeg)) = (32 : Int32)
      · rw [if_pos hc3] at h
        refine q_icmp rfl (fun c => absurd hc3 (of_decide_eq_true c)) (fun _ => ?_)
        refine q_go 7 (pc' := 0) (ls' := [.ref 10]) (st' := []) (V' := (x_up V 10 4 ((V 10 4) + 1))) rfl ?_
        exact ih  (x_up V 10 4 ((V 10 4) + 1))  h
      · rw [if_neg hc3] at h
        refine q_icmp rfl (fun _ => ?_) (fun c => absurd hc3 (of_decide_eq_false c))
        exact hk  V  h
def f_X1_advance (V : xV) : Option (xV) := f_X1_advance_L0 300 (fun V4 => if (V4 10 4) < (V4 10 3) then (if x_in (V4 10 4) 100 = true then (x_b2 (f_X1_isFigure (V4 1 ((V4 10 4).toNatClampNeg)) (x_up V4 10 5 (V4 10 4))) (fun x9 V8 => if x9 = 0 then (if x_in (V8 10 4) 100 = true then (x_b2 (f_X1_isSign (V8 1 ((V8 10 4).toNatClampNeg)) V8) (fun x14 V13 => if x14 = 0 then (some (x_up (x_up V13 10 6 (-3 : Int32)) 10 4 ((V13 10 4) + 1))) else (if x_in (V13 10 4) 100 = true then (some (x_up (x_up V13 10 6 (V13 1 ((V13 10 4).toNatClampNeg))) 10 4 ((V13 10 4) + 1))) else none))) else none) else (x_b1 (f_X1_advanceOverNumber V8) (fun V18 => some V18)))) else none) else (some (x_up (x_up V4 10 5 (V4 10 4)) 10 6 (-1 : Int32))))  V
theorem f_X1_advance_ok {V W : xV}  (h : f_X1_advance V = some W) : x_Rn (2) 17 [.ref 10] V none W := by
  refine ⟨1, kX1_advance, rfl, ?_⟩
  show x_Ex (2) kX1_advance 0 [.ref 10] [] V none W
  unfold f_X1_advance at h
  refine f_X1_advance_L0_ok (fun V4 h => ?_) 300  V  h
  refine q_go 8 (pc' := 54) (ls' := [.ref 10]) (st' := [.int (V4 10 3), .int (V4 10 4)]) (V' := (x_up V4 10 5 (V4 10 4))) rfl ?_
  by_cases hc5 : (V4 10 4) < (V4 10 3)
  · rw [if_pos hc5] at h
    refine q_icmp rfl (fun _ => ?_) (fun c => absurd hc5 (of_decide_eq_false c))
    refine q_go 4 (pc' := 73) (ls' := [.ref 10]) (st' := [.int (V4 10 4), .ref 1]) (V' := (x_up V4 10 5 (V4 10 4))) rfl ?_
    refine x_em (p := x_in (V4 10 4) 100 = true) (fun hz => by rw [if_neg hz] at h; cases h) (fun hc6 => ?_)
    rw [if_pos hc6] at h
    refine q_ald (Or.inl ⟨rfl, rfl⟩) rfl hc6 ?_
    obtain ⟨x9, V8, hc7, h⟩ := x_b2_eq h
    refine q_call (d := (1)) (as := [.int (V4 1 ((V4 10 4).toNatClampNeg))]) (pc' := 77) (ls' := [.ref 10]) (st' := []) (r1 := some x9) rfl rfl ((f_X1_isFigure_ok hc7).up (by decide)) ?_
    by_cases hc10 : x9 = 0
    · rw [if_pos hc10] at h
      refine q_if rfl (fun _ => ?_) (fun c => absurd hc10 (of_decide_eq_false c))
      refine q_go 5 (pc' := 96) (ls' := [.ref 10]) (st' := [.int (V8 10 4), .ref 1, .ref 10]) (V' := V8) rfl ?_
      refine x_em (p := x_in (V8 10 4) 100 = true) (fun hz => by rw [if_neg hz] at h; cases h) (fun hc11 => ?_)
      rw [if_pos hc11] at h
      refine q_ald (Or.inl ⟨rfl, rfl⟩) rfl hc11 ?_
      obtain ⟨x14, V13, hc12, h⟩ := x_b2_eq h
      refine q_call (d := (1)) (as := [.int (V8 1 ((V8 10 4).toNatClampNeg))]) (pc' := 100) (ls' := [.ref 10]) (st' := [.ref 10]) (r1 := some x14) rfl rfl ((f_X1_isSign_ok hc12).up (by decide)) ?_
      by_cases hc15 : x14 = 0
      · rw [if_pos hc15] at h
        refine q_if rfl (fun _ => ?_) (fun c => absurd hc15 (of_decide_eq_false c))
        refine q_go 8 (pc' := 130) (ls' := [.ref 10]) (st' := []) (V' := (x_up (x_up V13 10 6 (-3 : Int32)) 10 4 ((V13 10 4) + 1))) rfl ?_
        obtain rfl := Option.some.inj h
        exact q_ret rfl rfl
      · rw [if_neg hc15] at h
        refine q_if rfl (fun c => absurd (of_decide_eq_true c) hc15) (fun _ => ?_)
        refine q_go 4 (pc' := 111) (ls' := [.ref 10]) (st' := [.int (V13 10 4), .ref 1, .ref 10]) (V' := V13) rfl ?_
        refine x_em (p := x_in (V13 10 4) 100 = true) (fun hz => by rw [if_neg hz] at h; cases h) (fun hc16 => ?_)
        rw [if_pos hc16] at h
        refine q_ald (Or.inl ⟨rfl, rfl⟩) rfl hc16 ?_
        refine q_go 8 (pc' := 130) (ls' := [.ref 10]) (st' := []) (V' := (x_up (x_up V13 10 6 (V13 1 ((V13 10 4).toNatClampNeg))) 10 4 ((V13 10 4) + 1))) rfl ?_
        obtain rfl := Option.some.inj h
        exact q_ret rfl rfl
    · rw [if_neg hc10] at h
      refine q_if rfl (fun c => absurd (of_decide_eq_true c) hc10) (fun _ => ?_)
      refine q_go 1 (pc' := 81) (ls' := [.ref 10]) (st' := [.ref 10]) (V' := V8) rfl ?_
      obtain ⟨V18, hc17, h⟩ := x_b1_eq h
      refine q_call (d := (1)) (as := [.ref 10]) (pc' := 84) (ls' := [.ref 10]) (st' := []) (r1 := none) rfl rfl ((f_X1_advanceOverNumber_ok hc17).up (by decide)) ?_
      refine q_go 1 (pc' := 130) (ls' := [.ref 10]) (st' := []) (V' := V18) rfl ?_
      obtain rfl := Option.some.inj h
      exact q_ret rfl rfl
  · rw [if_neg hc5] at h
    refine q_icmp rfl (fun c => absurd (of_decide_eq_true c) hc5) (fun _ => ?_)
    refine q_go 4 (pc' := 130) (ls' := [.ref 10]) (st' := []) (V' := (x_up (x_up V4 10 5 (V4 10 4)) 10 6 (-1 : Int32))) rfl ?_
    obtain rfl := Option.some.inj h
    exact q_ret rfl rfl
def f_X1_isNumber (a0 : Int32) (a1 : Int32) (V : xV) : Option (Int32 × xV) := if (V 10 6) = (-2 : Int32) then (if (V 10 7) < a0 then (some ((0 : Int32), V)) else (if a1 < (V 10 7) then (some ((0 : Int32), V)) else (some ((1 : Int32), V)))) else (some ((0 : Int32), V))
theorem f_X1_isNumber_ok {a0 : Int32} {a1 : Int32} {V W : xV} {x : Int32} (h : f_X1_isNumber a0 a1 V = some (x, W)) : x_Rn (0) 16 [.ref 10, .int a0, .int a1] V (some x) W := by
  refine ⟨3, kX1_isNumber, rfl, ?_⟩
  show x_Ex (0) kX1_isNumber 0 [.ref 10, .int a0, .int a1] [] V (some x) W
  unfold f_X1_isNumber at h
  refine q_go 3 (pc' := 6) (ls' := [.ref 10, .int a0, .int a1]) (st' := [.int (-2 : Int32), .int (V 10 6)]) (V' := V) rfl ?_
  by_cases hc1 : (V 10 6) = (-2 : Int32)
  · rw [if_pos hc1] at h
    refine q_icmp rfl (fun c => absurd hc1 (of_decide_eq_true c)) (fun _ => ?_)
    refine q_go 3 (pc' := 14) (ls' := [.ref 10, .int a0, .int a1]) (st' := [.int a0, .int (V 10 7)]) (V' := V) rfl ?_
    by_cases hc2 : (V 10 7) < a0
    · rw [if_pos hc2] at h
      refine q_icmp rfl (fun _ => ?_) (fun c => absurd hc2 (of_decide_eq_false c))
      refine q_go 1 (pc' := 30) (ls' := [.ref 10, .int a0, .int a1]) (st' := [.int (0 : Int32)]) (V' := V) rfl ?_
      obtain ⟨rfl, rfl⟩ := x_p2 h
      exact q_ret rfl rfl
    · rw [if_neg hc2] at h
      refine q_icmp rfl (fun c => absurd (of_decide_eq_true c) hc2) (fun _ => ?_)
      refine q_go 3 (pc' := 22) (ls' := [.ref 10, .int a0, .int a1]) (st' := [.int a1, .int (V 10 7)]) (V' := V) rfl ?_
      by_cases hc3 : a1 < (V 10 7)
      · rw [if_pos hc3] at h
        refine q_icmp rfl (fun _ => ?_) (fun c => absurd hc3 (of_decide_eq_false c))
        refine q_go 1 (pc' := 30) (ls' := [.ref 10, .int a0, .int a1]) (st' := [.int (0 : Int32)]) (V' := V) rfl ?_
        obtain ⟨rfl, rfl⟩ := x_p2 h
        exact q_ret rfl rfl
      · rw [if_neg hc3] at h
        refine q_icmp rfl (fun c => absurd (of_decide_eq_true c) hc3) (fun _ => ?_)
        refine q_go 2 (pc' := 30) (ls' := [.ref 10, .int a0, .int a1]) (st' := [.int (1 : Int32)]) (V' := V) rfl ?_
        obtain ⟨rfl, rfl⟩ := x_p2 h
        exact q_ret rfl rfl
  · rw [if_neg hc1] at h
    refine q_icmp rfl (fun _ => ?_) (fun c => absurd hc1 (of_decide_eq_false c))
    refine q_go 1 (pc' := 30) (ls' := [.ref 10, .int a0, .int a1]) (st' := [.int (0 : Int32)]) (V' := V) rfl ?_
    obtain ⟨rfl, rfl⟩ := x_p2 h
    exact q_ret rfl rfl
def f_X1_nextIsNumber (a0 : Int32) (a1 : Int32) (V : xV) : Option (Int32 × xV) := x_b1 (f_X1_advance V) (fun V2 => x_b2 (f_X1_isNumber a0 a1 V2) (fun x5 V4 => if x5 = 0 ∨ x5 = 1 then some (x5, V4) else none))
theorem f_X1_nextIsNumber_ok {a0 : Int32} {a1 : Int32} {V W : xV} {x : Int32} (h : f_X1_nextIsNumber a0 a1 V = some (x, W)) : x_Rn (3) 15 [.ref 10, .int a0, .int a1] V (some x) W := by
  refine ⟨3, kX1_nextIsNumber, rfl, ?_⟩
  show x_Ex (3) kX1_nextIsNumber 0 [.ref 10, .int a0, .int a1] [] V (some x) W
  unfold f_X1_nextIsNumber at h
  refine q_go 1 (pc' := 1) (ls' := [.ref 10, .int a0, .int a1]) (st' := [.ref 10]) (V' := V) rfl ?_
  obtain ⟨V2, hc1, h⟩ := x_b1_eq h
  refine q_call (d := (2)) (as := [.ref 10]) (pc' := 4) (ls' := [.ref 10, .int a0, .int a1]) (st' := []) (r1 := none) rfl rfl ((f_X1_advance_ok hc1).up (by decide)) ?_
  refine q_go 3 (pc' := 7) (ls' := [.ref 10, .int a0, .int a1]) (st' := [.int a1, .int a0, .ref 10]) (V' := V2) rfl ?_
  obtain ⟨x5, V4, hc3, h⟩ := x_b2_eq h
  refine q_call (d := (2)) (as := [.ref 10, .int a0, .int a1]) (pc' := 10) (ls' := [.ref 10, .int a0, .int a1]) (st' := []) (r1 := some x5) rfl rfl ((f_X1_isNumber_ok hc3).up (by decide)) ?_
  refine x_em (p := x5 = 0 ∨ x5 = 1) (fun hz => by rw [if_neg hz] at h; cases h) (fun hc6 => ?_)
  rw [if_pos hc6] at h
  obtain ⟨rfl, rfl⟩ := x_p2 h
  exact q_retz rfl rfl hc6
def f_X1_nextIsEnd (V : xV) : Option (Int32 × xV) := x_b1 (f_X1_advance V) (fun V2 => if (V2 10 6) = (59 : Int32) then (some ((1 : Int32), V2)) else (some ((0 : Int32), V2)))
theorem f_X1_nextIsEnd_ok {V W : xV} {x : Int32} (h : f_X1_nextIsEnd V = some (x, W)) : x_Rn (3) 14 [.ref 10] V (some x) W := by
  refine ⟨1, kX1_nextIsEnd, rfl, ?_⟩
  show x_Ex (3) kX1_nextIsEnd 0 [.ref 10] [] V (some x) W
  unfold f_X1_nextIsEnd at h
  refine q_go 1 (pc' := 1) (ls' := [.ref 10]) (st' := [.ref 10]) (V' := V) rfl ?_
  obtain ⟨V2, hc1, h⟩ := x_b1_eq h
  refine q_call (d := (2)) (as := [.ref 10]) (pc' := 4) (ls' := [.ref 10]) (st' := []) (r1 := none) rfl rfl ((f_X1_advance_ok hc1).up (by decide)) ?_
  refine q_go 3 (pc' := 10) (ls' := [.ref 10]) (st' := [.int (59 : Int32), .int (V2 10 6)]) (V' := V2) rfl ?_
  by_cases hc3 : (V2 10 6) = (59 : Int32)
  · rw [if_pos hc3] at h
    refine q_icmp rfl (fun c => absurd hc3 (of_decide_eq_true c)) (fun _ => ?_)
    refine q_go 2 (pc' := 18) (ls' := [.ref 10]) (st' := [.int (1 : Int32)]) (V' := V2) rfl ?_
    obtain ⟨rfl, rfl⟩ := x_p2 h
    exact q_ret rfl rfl
  · rw [if_neg hc3] at h
    refine q_icmp rfl (fun _ => ?_) (fun c => absurd hc3 (of_decide_eq_false c))
    refine q_go 1 (pc' := 18) (ls' := [.ref 10]) (st' := [.int (0 : Int32)]) (V' := V2) rfl ?_
    obtain ⟨rfl, rfl⟩ := x_p2 h
    exact q_ret rfl rfl
def f_X1_readLoan (V : xV) : Option (Int32 × xV) := x_b2 (f_X1_nextIsNumber (0 : Int32) ((V 11 0) - 1) V) (fun x3 V2 => if x3 = 0 then (some ((0 : Int32), V2)) else (x_b2 (f_X1_nextIsNumber (0 : Int32) ((V2 11 1) - 1) V2) (fun x7 V6 => if x7 = 0 then (some ((0 : Int32), V6)) else (x_b2 (f_X1_nextIsNumber (V6 10 7) ((V6 11 1) - 1) V6) (fun x11 V10 => if x11 = 0 then (some ((0 : Int32), V10)) else (if x_in (V2 10 7) 6 = true then (x_b2 (f_X1_nextIsEnd (x_up (x_up V10 16 ((V2 10 7).toNatClampNeg) (V6 10 7)) 17 ((V2 10 7).toNatClampNeg) (V10 10 7))) (fun x16 V15 => if x16 = 0 ∨ x16 = 1 then some (x16, V15) else none)) else none))))))
theorem f_X1_readLoan_ok {V W : xV} {x : Int32} (h : f_X1_readLoan V = some (x, W)) : x_Rn (4) 13 [.ref 10] V (some x) W := by
  refine ⟨3, kX1_readLoan, rfl, ?_⟩
  show x_Ex (4) kX1_readLoan 0 [.ref 10, .long 0, .long 0] [] V (some x) W
  unfold f_X1_readLoan at h
  refine q_go 7 (pc' := 11) (ls' := [.ref 10, .long 0, .long 0]) (st' := [.int ((V 11 0) - 1), .int (0 : Int32), .ref 10]) (V' := V) rfl ?_
  obtain ⟨x3, V2, hc1, h⟩ := x_b2_eq h
  refine q_call (d := (3)) (as := [.ref 10, .int (0 : Int32), .int ((V 11 0) - 1)]) (pc' := 14) (ls' := [.ref 10, .long 0, .long 0]) (st' := []) (r1 := some x3) rfl rfl ((f_X1_nextIsNumber_ok hc1).up (by decide)) ?_
  by_cases hc4 : x3 = 0
  · rw [if_pos hc4] at h
    refine q_if rfl (fun c => absurd hc4 (of_decide_eq_true c)) (fun _ => ?_)
    refine q_go 1 (pc' := 18) (ls' := [.ref 10, .long 0, .long 0]) (st' := [.int (0 : Int32)]) (V' := V2) rfl ?_
    obtain ⟨rfl, rfl⟩ := x_p2 h
    exact q_ret rfl rfl
  · rw [if_neg hc4] at h
    refine q_if rfl (fun _ => ?_) (fun c => absurd hc4 (of_decide_eq_false c))
    refine q_go 10 (pc' := 35) (ls' := [.ref 10, .int (V2 10 7), .long 0]) (st' := [.int ((V2 11 1) - 1), .int (0 : Int32), .ref 10]) (V' := V2) rfl ?_
    obtain ⟨x7, V6, hc5, h⟩ := x_b2_eq h
    refine q_call (d := (3)) (as := [.ref 10, .int (0 : Int32), .int ((V2 11 1) - 1)]) (pc' := 38) (ls' := [.ref 10, .int (V2 10 7), .long 0]) (st' := []) (r1 := some x7) rfl rfl ((f_X1_nextIsNumber_ok hc5).up (by decide)) ?_
    by_cases hc8 : x7 = 0
    · rw [if_pos hc8] at h
      refine q_if rfl (fun c => absurd hc8 (of_decide_eq_true c)) (fun _ => ?_)
      refine q_go 1 (pc' := 42) (ls' := [.ref 10, .int (V2 10 7), .long 0]) (st' := [.int (0 : Int32)]) (V' := V6) rfl ?_
      obtain ⟨rfl, rfl⟩ := x_p2 h
      exact q_ret rfl rfl
    · rw [if_neg hc8] at h
      refine q_if rfl (fun _ => ?_) (fun c => absurd hc8 (of_decide_eq_false c))
      refine q_go 10 (pc' := 59) (ls' := [.ref 10, .int (V2 10 7), .int (V6 10 7)]) (st' := [.int ((V6 11 1) - 1), .int (V6 10 7), .ref 10]) (V' := V6) rfl ?_
      obtain ⟨x11, V10, hc9, h⟩ := x_b2_eq h
      refine q_call (d := (3)) (as := [.ref 10, .int (V6 10 7), .int ((V6 11 1) - 1)]) (pc' := 62) (ls' := [.ref 10, .int (V2 10 7), .int (V6 10 7)]) (st' := []) (r1 := some x11) rfl rfl ((f_X1_nextIsNumber_ok hc9).up (by decide)) ?_
      by_cases hc12 : x11 = 0
      · rw [if_pos hc12] at h
        refine q_if rfl (fun c => absurd hc12 (of_decide_eq_true c)) (fun _ => ?_)
        refine q_go 1 (pc' := 66) (ls' := [.ref 10, .int (V2 10 7), .int (V6 10 7)]) (st' := [.int (0 : Int32)]) (V' := V10) rfl ?_
        obtain ⟨rfl, rfl⟩ := x_p2 h
        exact q_ret rfl rfl
      · rw [if_neg hc12] at h
        refine q_if rfl (fun _ => ?_) (fun c => absurd hc12 (of_decide_eq_false c))
        refine q_go 5 (pc' := 76) (ls' := [.ref 10, .int (V2 10 7), .int (V6 10 7)]) (st' := [.int (V6 10 7), .int (V2 10 7), .ref 16]) (V' := V10) rfl ?_
        refine x_em (p := x_in (V2 10 7) 6 = true) (fun hz => by rw [if_neg hz] at h; cases h) (fun hc13 => ?_)
        rw [if_pos hc13] at h
        refine q_ast rfl rfl hc13 ?_
        refine q_go 6 (pc' := 89) (ls' := [.ref 10, .int (V2 10 7), .int (V6 10 7)]) (st' := [.int (V10 10 7), .int (V2 10 7), .ref 17]) (V' := (x_up V10 16 ((V2 10 7).toNatClampNeg) (V6 10 7))) rfl ?_
        refine q_ast rfl rfl hc13 ?_
        refine q_go 1 (pc' := 91) (ls' := [.ref 10, .int (V2 10 7), .int (V6 10 7)]) (st' := [.ref 10]) (V' := (x_up (x_up V10 16 ((V2 10 7).toNatClampNeg) (V6 10 7)) 17 ((V2 10 7).toNatClampNeg) (V10 10 7))) rfl ?_
        obtain ⟨x16, V15, hc14, h⟩ := x_b2_eq h
        refine q_call (d := (3)) (as := [.ref 10]) (pc' := 94) (ls' := [.ref 10, .int (V2 10 7), .int (V6 10 7)]) (st' := []) (r1 := some x16) rfl rfl ((f_X1_nextIsEnd_ok hc14).up (by decide)) ?_
        refine x_em (p := x16 = 0 ∨ x16 = 1) (fun hz => by rw [if_neg hz] at h; cases h) (fun hc17 => ?_)
        rw [if_pos hc17] at h
        obtain ⟨rfl, rfl⟩ := x_p2 h
        exact q_retz rfl rfl hc17
def f_X1_readCases (V : xV) : Option (Int32 × xV) := if (V 10 8) = 0 then (if 0 < (V 11 0) then (some ((0 : Int32), V)) else (x_b2 (f_X1_nextIsNumber (1 : Int32) (2 : Int32) V) (fun x5 V4 => if x5 = 0 then (some ((0 : Int32), V4)) else (x_b2 (f_X1_nextIsEnd (x_up (x_up V4 10 8 (1 : Int32)) 11 2 (V4 10 7))) (fun x9 V8 => if x9 = 0 ∨ x9 = 1 then some (x9, V8) else none))))) else (some ((0 : Int32), V))
theorem f_X1_readCases_ok {V W : xV} {x : Int32} (h : f_X1_readCases V = some (x, W)) : x_Rn (4) 9 [.ref 10] V (some x) W := by
  refine ⟨1, kX1_readCases, rfl, ?_⟩
  show x_Ex (4) kX1_readCases 0 [.ref 10] [] V (some x) W
  unfold f_X1_readCases at h
  refine q_go 2 (pc' := 4) (ls' := [.ref 10]) (st' := [.int (V 10 8)]) (V' := V) rfl ?_
  by_cases hc1 : (V 10 8) = 0
  · rw [if_pos hc1] at h
    refine q_if rfl (fun c => absurd hc1 (of_decide_eq_true c)) (fun _ => ?_)
    refine q_go 3 (pc' := 14) (ls' := [.ref 10]) (st' := [.int (V 11 0)]) (V' := V) rfl ?_
    by_cases hc2 : 0 < (V 11 0)
    · rw [if_pos hc2] at h
      refine q_if rfl (fun _ => ?_) (fun c => absurd hc2 (of_decide_eq_false c))
      refine q_go 1 (pc' := 27) (ls' := [.ref 10]) (st' := [.int (0 : Int32)]) (V' := V) rfl ?_
      obtain ⟨rfl, rfl⟩ := x_p2 h
      exact q_ret rfl rfl
    · rw [if_neg hc2] at h
      refine q_if rfl (fun c => absurd (of_decide_eq_true c) hc2) (fun _ => ?_)
      refine q_go 3 (pc' := 20) (ls' := [.ref 10]) (st' := [.int (2 : Int32), .int (1 : Int32), .ref 10]) (V' := V) rfl ?_
      obtain ⟨x5, V4, hc3, h⟩ := x_b2_eq h
      refine q_call (d := (3)) (as := [.ref 10, .int (1 : Int32), .int (2 : Int32)]) (pc' := 23) (ls' := [.ref 10]) (st' := []) (r1 := some x5) rfl rfl ((f_X1_nextIsNumber_ok hc3).up (by decide)) ?_
      by_cases hc6 : x5 = 0
      · rw [if_pos hc6] at h
        refine q_if rfl (fun c => absurd hc6 (of_decide_eq_true c)) (fun _ => ?_)
        refine q_go 1 (pc' := 27) (ls' := [.ref 10]) (st' := [.int (0 : Int32)]) (V' := V4) rfl ?_
        obtain ⟨rfl, rfl⟩ := x_p2 h
        exact q_ret rfl rfl
      · rw [if_neg hc6] at h
        refine q_if rfl (fun _ => ?_) (fun c => absurd hc6 (of_decide_eq_false c))
        refine q_go 9 (pc' := 45) (ls' := [.ref 10]) (st' := [.ref 10]) (V' := (x_up (x_up V4 10 8 (1 : Int32)) 11 2 (V4 10 7))) rfl ?_
        obtain ⟨x9, V8, hc7, h⟩ := x_b2_eq h
        refine q_call (d := (3)) (as := [.ref 10]) (pc' := 48) (ls' := [.ref 10]) (st' := []) (r1 := some x9) rfl rfl ((f_X1_nextIsEnd_ok hc7).up (by decide)) ?_
        refine x_em (p := x9 = 0 ∨ x9 = 1) (fun hz => by rw [if_neg hz] at h; cases h) (fun hc10 => ?_)
        rw [if_pos hc10] at h
        obtain ⟨rfl, rfl⟩ := x_p2 h
        exact q_retz rfl rfl hc10
  · rw [if_neg hc1] at h
    refine q_if rfl (fun _ => ?_) (fun c => absurd hc1 (of_decide_eq_false c))
    refine q_go 1 (pc' := 27) (ls' := [.ref 10]) (st' := [.int (0 : Int32)]) (V' := V) rfl ?_
    obtain ⟨rfl, rfl⟩ := x_p2 h
    exact q_ret rfl rfl
def f_X1_readLights_L26 : Nat → (Int32 → xV → Option (Int32 × xV)) → Int32 → xV → Option (Int32 × xV)
  | 0, _, _, _ => none
  | n + 1, k, l1, V => if (4 : Int32) ≤ l1 then (k l1 V) else (x_b1 (f_X1_advance V) (fun V5 => if (V5 10 6) = (59 : Int32) then (if l1 ≤ 0 then (x_b2 (f_X1_isNumber (0 : Int32) (30 : Int32) V5) (fun x15 V14 => if x15 = 0 then (some ((0 : Int32), V14)) else (if x_in l1 4 = true then (f_X1_readLights_L26 n k (l1 + (1 : Int32)) (x_up (x_up V14 13 (l1.toNatClampNeg) (V14 10 7)) 11 1 (l1 + 1))) else none))) else (some ((1 : Int32), V5))) else (x_b2 (f_X1_isNumber (0 : Int32) (30 : Int32) V5) (fun x9 V8 => if x9 = 0 then (some ((0 : Int32), V8)) else (if x_in l1 4 = true then (f_X1_readLights_L26 n k (l1 + (1 : Int32)) (x_up (x_up V8 13 (l1.toNatClampNeg) (V8 10 7)) 11 1 (l1 + 1))) else none)))))
theorem f_X1_readLights_L26_ok {k : Int32 → xV → Option (Int32 × xV)} {x : Int32} {W : xV} (hk : ∀ (l1 : Int32) (V : xV), k l1 V = some (x, W) → x_Ex (4) kX1_readLights 91 [.ref 10, .int l1] [] V (some x) W) : ∀ (n : Nat) (l1 : Int32) (V : xV), f_X1_readLights_L26 n k l1 V = some (x, W) → x_Ex (4) kX1_readLights 26 [.ref 10, .int l1] [] V (some x) W := by
  intro n
  induction n with
  | zero => intro l1 V  h; cases h
  | succ n ih =>
    intro l1 V  h
    unfold f_X1_readLights_L26 at h
    refine q_go 2 (pc' := 28) (ls' := [.ref 10, .int l1]) (st' := [.int (4 : Int32), .int l1]) (V' := V) rfl ?_
    by_cases hc3 : (4 : Int32) ≤ l1
    · rw [if_pos hc3] at h
      refine q_icmp rfl (fun _ => ?_) (fun c => absurd hc3 (of_decide_eq_false c))
      exact hk l1 V  h
    · rw [if_neg hc3] at h
      refine q_icmp rfl (fun c => absurd (of_decide_eq_true c) hc3) (fun _ => ?_)
      refine q_go 1 (pc' := 32) (ls' := [.ref 10, .int l1]) (st' := [.ref 10]) (V' := V) rfl ?_
      obtain ⟨V5, hc4, h⟩ := x_b1_eq h
      refine q_call (d := (3)) (as := [.ref 10]) (pc' := 35) (ls' := [.ref 10, .int l1]) (st' := []) (r1 := none) rfl rfl ((f_X1_advance_ok hc4).up (by decide)) ?_
      refine q_go 3 (pc' := 41) (ls' := [.ref 10, .int l1]) (st' := [.int (59 : Int32), .int (V5 10 6)]) (V' := V5) rfl ?_
      by_cases hc6 : (V5 10 6) = (59 : Int32)
      · rw [if_pos hc6] at h
        refine q_icmp rfl (fun c => absurd hc6 (of_decide_eq_true c)) (fun _ => ?_)
        refine q_go 1 (pc' := 45) (ls' := [.ref 10, .int l1]) (st' := [.int l1]) (V' := V5) rfl ?_
        by_cases hc12 : l1 ≤ 0
        · rw [if_pos hc12] at h
          refine q_if rfl (fun _ => ?_) (fun c => absurd hc12 (of_decide_eq_false c))
          refine q_go 3 (pc' := 54) (ls' := [.ref 10, .int l1]) (st' := [.int (30 : Int32), .int (0 : Int32), .ref 10]) (V' := V5) rfl ?_
          obtain ⟨x15, V14, hc13, h⟩ := x_b2_eq h
          refine q_call (d := (3)) (as := [.ref 10, .int (0 : Int32), .int (30 : Int32)]) (pc' := 57) (ls' := [.ref 10, .int l1]) (st' := []) (r1 := some x15) rfl rfl ((f_X1_isNumber_ok hc13).up (by decide)) ?_
          by_cases hc16 : x15 = 0
          · rw [if_pos hc16] at h
            refine q_if rfl (fun c => absurd hc16 (of_decide_eq_true c)) (fun _ => ?_)
            refine q_go 1 (pc' := 61) (ls' := [.ref 10, .int l1]) (st' := [.int (0 : Int32)]) (V' := V14) rfl ?_
            obtain ⟨rfl, rfl⟩ := x_p2 h
            exact q_ret rfl rfl
          · rw [if_neg hc16] at h
            refine q_if rfl (fun _ => ?_) (fun c => absurd hc16 (of_decide_eq_false c))
            refine q_go 6 (pc' := 74) (ls' := [.ref 10, .int l1]) (st' := [.int (V14 10 7), .int l1, .ref 13]) (V' := V14) rfl ?_
            refine x_em (p := x_in l1 4 = true) (fun hz => by rw [if_neg hz] at h; cases h) (fun hc17 => ?_)
            rw [if_pos hc17] at h
            refine q_ast rfl rfl hc17 ?_
            refine q_go 8 (pc' := 26) (ls' := [.ref 10, .int (l1 + (1 : Int32))]) (st' := []) (V' := (x_up (x_up V14 13 (l1.toNatClampNeg) (V14 10 7)) 11 1 (l1 + 1))) rfl ?_
            exact ih (l1 + (1 : Int32)) (x_up (x_up V14 13 (l1.toNatClampNeg) (V14 10 7)) 11 1 (l1 + 1))  h
        · rw [if_neg hc12] at h
          refine q_if rfl (fun c => absurd (of_decide_eq_true c) hc12) (fun _ => ?_)
          refine q_go 1 (pc' := 49) (ls' := [.ref 10, .int l1]) (st' := [.int (1 : Int32)]) (V' := V5) rfl ?_
          obtain ⟨rfl, rfl⟩ := x_p2 h
          exact q_ret rfl rfl
      · rw [if_neg hc6] at h
        refine q_icmp rfl (fun _ => ?_) (fun c => absurd hc6 (of_decide_eq_false c))
        refine q_go 3 (pc' := 54) (ls' := [.ref 10, .int l1]) (st' := [.int (30 : Int32), .int (0 : Int32), .ref 10]) (V' := V5) rfl ?_
        obtain ⟨x9, V8, hc7, h⟩ := x_b2_eq h
        refine q_call (d := (3)) (as := [.ref 10, .int (0 : Int32), .int (30 : Int32)]) (pc' := 57) (ls' := [.ref 10, .int l1]) (st' := []) (r1 := some x9) rfl rfl ((f_X1_isNumber_ok hc7).up (by decide)) ?_
        by_cases hc10 : x9 = 0
        · rw [if_pos hc10] at h
          refine q_if rfl (fun c => absurd hc10 (of_decide_eq_true c)) (fun _ => ?_)
          refine q_go 1 (pc' := 61) (ls' := [.ref 10, .int l1]) (st' := [.int (0 : Int32)]) (V' := V8) rfl ?_
          obtain ⟨rfl, rfl⟩ := x_p2 h
          exact q_ret rfl rfl
        · rw [if_neg hc10] at h
          refine q_if rfl (fun _ => ?_) (fun c => absurd hc10 (of_decide_eq_false c))
          refine q_go 6 (pc' := 74) (ls' := [.ref 10, .int l1]) (st' := [.int (V8 10 7), .int l1, .ref 13]) (V' := V8) rfl ?_
          refine x_em (p := x_in l1 4 = true) (fun hz => by rw [if_neg hz] at h; cases h) (fun hc11 => ?_)
          rw [if_pos hc11] at h
          refine q_ast rfl rfl hc11 ?_
          refine q_go 8 (pc' := 26) (ls' := [.ref 10, .int (l1 + (1 : Int32))]) (st' := []) (V' := (x_up (x_up V8 13 (l1.toNatClampNeg) (V8 10 7)) 11 1 (l1 + 1))) rfl ?_
          exact ih (l1 + (1 : Int32)) (x_up (x_up V8 13 (l1.toNatClampNeg) (V8 10 7)) 11 1 (l1 + 1))  h
def f_X1_readLights (V : xV) : Option (Int32 × xV) := if (V 10 9) = 0 then (if (V 11 0) ≤ 0 then (f_X1_readLights_L26 300 (fun l1_18 V19 => x_b2 (f_X1_nextIsEnd V19) (fun x22 V21 => if x22 = 0 ∨ x22 = 1 then some (x22, V21) else none)) (0 : Int32) (x_up V 10 9 (1 : Int32))) else (some ((0 : Int32), V))) else (some ((0 : Int32), V))
theorem f_X1_readLights_ok {V W : xV} {x : Int32} (h : f_X1_readLights V = some (x, W)) : x_Rn (4) 10 [.ref 10] V (some x) W := by
  refine ⟨2, kX1_readLights, rfl, ?_⟩
  show x_Ex (4) kX1_readLights 0 [.ref 10, .long 0] [] V (some x) W
  unfold f_X1_readLights at h
  refine q_go 2 (pc' := 4) (ls' := [.ref 10, .long 0]) (st' := [.int (V 10 9)]) (V' := V) rfl ?_
  by_cases hc1 : (V 10 9) = 0
  · rw [if_pos hc1] at h
    refine q_if rfl (fun c => absurd hc1 (of_decide_eq_true c)) (fun _ => ?_)
    refine q_go 3 (pc' := 14) (ls' := [.ref 10, .long 0]) (st' := [.int (V 11 0)]) (V' := V) rfl ?_
    by_cases hc2 : (V 11 0) ≤ 0
    · rw [if_pos hc2] at h
      refine q_if rfl (fun _ => ?_) (fun c => absurd hc2 (of_decide_eq_false c))
      refine q_go 5 (pc' := 26) (ls' := [.ref 10, .int (0 : Int32)]) (st' := []) (V' := (x_up V 10 9 (1 : Int32))) rfl ?_
      refine f_X1_readLights_L26_ok (fun l1_18 V19 h => ?_) 300 (0 : Int32) (x_up V 10 9 (1 : Int32))  h
      refine q_go 1 (pc' := 92) (ls' := [.ref 10, .int l1_18]) (st' := [.ref 10]) (V' := V19) rfl ?_
      obtain ⟨x22, V21, hc20, h⟩ := x_b2_eq h
      refine q_call (d := (3)) (as := [.ref 10]) (pc' := 95) (ls' := [.ref 10, .int l1_18]) (st' := []) (r1 := some x22) rfl rfl ((f_X1_nextIsEnd_ok hc20).up (by decide)) ?_
      refine x_em (p := x22 = 0 ∨ x22 = 1) (fun hz => by rw [if_neg hz] at h; cases h) (fun hc23 => ?_)
      rw [if_pos hc23] at h
      obtain ⟨rfl, rfl⟩ := x_p2 h
      exact q_retz rfl rfl hc23
    · rw [if_neg hc2] at h
      refine q_if rfl (fun c => absurd (of_decide_eq_true c) hc2) (fun _ => ?_)
      refine q_go 1 (pc' := 18) (ls' := [.ref 10, .long 0]) (st' := [.int (0 : Int32)]) (V' := V) rfl ?_
      obtain ⟨rfl, rfl⟩ := x_p2 h
      exact q_ret rfl rfl
  · rw [if_neg hc1] at h
    refine q_if rfl (fun _ => ?_) (fun c => absurd hc1 (of_decide_eq_false c))
    refine q_go 1 (pc' := 18) (ls' := [.ref 10, .long 0]) (st' := [.int (0 : Int32)]) (V' := V) rfl ?_
    obtain ⟨rfl, rfl⟩ := x_p2 h
    exact q_ret rfl rfl
def f_X1_readThing (V : xV) : Option (Int32 × xV) := if (6 : Int32) ≤ (V 11 0) then (some ((0 : Int32), V)) else (x_b2 (f_X1_nextIsNumber (0 : Int32) (99 : Int32) V) (fun x4 V3 => if x4 = 0 then (some ((0 : Int32), V3)) else (if x_in (V3 11 0) 6 = true then (x_b2 (f_X1_nextIsEnd (x_up (x_up V3 12 ((V3 11 0).toNatClampNeg) (V3 10 7)) 11 0 ((V3 11 0) + 1))) (fun x9 V8 => if x9 = 0 ∨ x9 = 1 then some (x9, V8) else none)) else none)))
theorem f_X1_readThing_ok {V W : xV} {x : Int32} (h : f_X1_readThing V = some (x, W)) : x_Rn (4) 11 [.ref 10] V (some x) W := by
  refine ⟨1, kX1_readThing, rfl, ?_⟩
  show x_Ex (4) kX1_readThing 0 [.ref 10] [] V (some x) W
  unfold f_X1_readThing at h
  refine q_go 4 (pc' := 9) (ls' := [.ref 10]) (st' := [.int (6 : Int32), .int (V 11 0)]) (V' := V) rfl ?_
  by_cases hc1 : (6 : Int32) ≤ (V 11 0)
  · rw [if_pos hc1] at h
    refine q_icmp rfl (fun _ => ?_) (fun c => absurd hc1 (of_decide_eq_false c))
    refine q_go 1 (pc' := 23) (ls' := [.ref 10]) (st' := [.int (0 : Int32)]) (V' := V) rfl ?_
    obtain ⟨rfl, rfl⟩ := x_p2 h
    exact q_ret rfl rfl
  · rw [if_neg hc1] at h
    refine q_icmp rfl (fun c => absurd (of_decide_eq_true c) hc1) (fun _ => ?_)
    refine q_go 3 (pc' := 16) (ls' := [.ref 10]) (st' := [.int (99 : Int32), .int (0 : Int32), .ref 10]) (V' := V) rfl ?_
    obtain ⟨x4, V3, hc2, h⟩ := x_b2_eq h
    refine q_call (d := (3)) (as := [.ref 10, .int (0 : Int32), .int (99 : Int32)]) (pc' := 19) (ls' := [.ref 10]) (st' := []) (r1 := some x4) rfl rfl ((f_X1_nextIsNumber_ok hc2).up (by decide)) ?_
    by_cases hc5 : x4 = 0
    · rw [if_pos hc5] at h
      refine q_if rfl (fun c => absurd hc5 (of_decide_eq_true c)) (fun _ => ?_)
      refine q_go 1 (pc' := 23) (ls' := [.ref 10]) (st' := [.int (0 : Int32)]) (V' := V3) rfl ?_
      obtain ⟨rfl, rfl⟩ := x_p2 h
      exact q_ret rfl rfl
    · rw [if_neg hc5] at h
      refine q_if rfl (fun _ => ?_) (fun c => absurd hc5 (of_decide_eq_false c))
      refine q_go 8 (pc' := 42) (ls' := [.ref 10]) (st' := [.int (V3 10 7), .int (V3 11 0), .ref 12]) (V' := V3) rfl ?_
      refine x_em (p := x_in (V3 11 0) 6 = true) (fun hz => by rw [if_neg hz] at h; cases h) (fun hc6 => ?_)
      rw [if_pos hc6] at h
      refine q_ast rfl rfl hc6 ?_
      refine q_go 8 (pc' := 57) (ls' := [.ref 10]) (st' := [.ref 10]) (V' := (x_up (x_up V3 12 ((V3 11 0).toNatClampNeg) (V3 10 7)) 11 0 ((V3 11 0) + 1))) rfl ?_
      obtain ⟨x9, V8, hc7, h⟩ := x_b2_eq h
      refine q_call (d := (3)) (as := [.ref 10]) (pc' := 60) (ls' := [.ref 10]) (st' := []) (r1 := some x9) rfl rfl ((f_X1_nextIsEnd_ok hc7).up (by decide)) ?_
      refine x_em (p := x9 = 0 ∨ x9 = 1) (fun hz => by rw [if_neg hz] at h; cases h) (fun hc10 => ?_)
      rw [if_pos hc10] at h
      obtain ⟨rfl, rfl⟩ := x_p2 h
      exact q_retz rfl rfl hc10
def f_X4_isBarred_14 (a0 : Int32) (a1 : Int32) (V : xV) : Option (Int32 × xV) := if x_in a0 6 = true then (if (((V 18 (a0.toNatClampNeg)) >>> (a1 &&& 31)) &&& 1) = (1 : Int32) then (some ((1 : Int32), V)) else (some ((0 : Int32), V))) else none
theorem f_X4_isBarred_14_ok {a0 : Int32} {a1 : Int32} {V W : xV} {x : Int32} (h : f_X4_isBarred_14 a0 a1 V = some (x, W)) : x_Rn (0) 50 [.ref 14, .int a0, .int a1] V (some x) W := by
  refine ⟨3, kX4_isBarred, rfl, ?_⟩
  show x_Ex (0) kX4_isBarred 0 [.ref 14, .int a0, .int a1] [] V (some x) W
  unfold f_X4_isBarred_14 at h
  refine q_go 3 (pc' := 5) (ls' := [.ref 14, .int a0, .int a1]) (st' := [.int a0, .ref 18]) (V' := V) rfl ?_
  refine x_em (p := x_in a0 6 = true) (fun hz => by rw [if_neg hz] at h; cases h) (fun hc1 => ?_)
  rw [if_pos hc1] at h
  refine q_ald (Or.inl ⟨rfl, rfl⟩) rfl hc1 ?_
  refine q_go 5 (pc' := 11) (ls' := [.ref 14, .int a0, .int a1]) (st' := [.int (1 : Int32), .int (((V 18 (a0.toNatClampNeg)) >>> (a1 &&& 31)) &&& 1)]) (V' := V) rfl ?_
  by_cases hc2 : (((V 18 (a0.toNatClampNeg)) >>> (a1 &&& 31)) &&& 1) = (1 : Int32)
  · rw [if_pos hc2] at h
    refine q_icmp rfl (fun c => absurd hc2 (of_decide_eq_true c)) (fun _ => ?_)
    refine q_go 2 (pc' := 19) (ls' := [.ref 14, .int a0, .int a1]) (st' := [.int (1 : Int32)]) (V' := V) rfl ?_
    obtain ⟨rfl, rfl⟩ := x_p2 h
    exact q_ret rfl rfl
  · rw [if_neg hc2] at h
    refine q_icmp rfl (fun _ => ?_) (fun c => absurd hc2 (of_decide_eq_false c))
    refine q_go 1 (pc' := 19) (ls' := [.ref 14, .int a0, .int a1]) (st' := [.int (0 : Int32)]) (V' := V) rfl ?_
    obtain ⟨rfl, rfl⟩ := x_p2 h
    exact q_ret rfl rfl
def f_X4_turnPair_14 (a0 : Int32) (a1 : Int32) (V : xV) : Option (xV) := if x_in a0 6 = true then (if x_in a1 6 = true then (some (x_up (x_up V 18 (a0.toNatClampNeg) ((V 18 (a0.toNatClampNeg)) ^^^ ((1 : Int32) <<< (a1 &&& 31)))) 18 (a1.toNatClampNeg) (((x_up V 18 (a0.toNatClampNeg) ((V 18 (a0.toNatClampNeg)) ^^^ ((1 : Int32) <<< (a1 &&& 31)))) 18 (a1.toNatClampNeg)) ^^^ ((1 : Int32) <<< (a0 &&& 31))))) else none) else none
theorem f_X4_turnPair_14_ok {a0 : Int32} {a1 : Int32} {V W : xV}  (h : f_X4_turnPair_14 a0 a1 V = some W) : x_Rn (0) 51 [.ref 14, .int a0, .int a1] V none W := by
  refine ⟨3, kX4_turnPair, rfl, ?_⟩
  show x_Ex (0) kX4_turnPair 0 [.ref 14, .int a0, .int a1] [] V none W
  unfold f_X4_turnPair_14 at h
  refine q_go 4 (pc' := 6) (ls' := [.ref 14, .int a0, .int a1]) (st' := [.int a0, .ref 18, .int a0, .ref 18]) (V' := V) rfl ?_
  refine x_em (p := x_in a0 6 = true) (fun hz => by rw [if_neg hz] at h; cases h) (fun hc1 => ?_)
  rw [if_pos hc1] at h
  refine q_ald (Or.inl ⟨rfl, rfl⟩) rfl hc1 ?_
  refine q_go 4 (pc' := 11) (ls' := [.ref 14, .int a0, .int a1]) (st' := [.int ((V 18 (a0.toNatClampNeg)) ^^^ ((1 : Int32) <<< (a1 &&& 31))), .int a0, .ref 18]) (V' := V) rfl ?_
  refine q_ast rfl rfl hc1 ?_
  refine q_go 4 (pc' := 18) (ls' := [.ref 14, .int a0, .int a1]) (st' := [.int a1, .ref 18, .int a1, .ref 18]) (V' := (x_up V 18 (a0.toNatClampNeg) ((V 18 (a0.toNatClampNeg)) ^^^ ((1 : Int32) <<< (a1 &&& 31))))) rfl ?_
  refine x_em (p := x_in a1 6 = true) (fun hz => by rw [if_neg hz] at h; cases h) (fun hc2 => ?_)
  rw [if_pos hc2] at h
  refine q_ald (Or.inl ⟨rfl, rfl⟩) rfl hc2 ?_
  refine q_go 4 (pc' := 23) (ls' := [.ref 14, .int a0, .int a1]) (st' := [.int (((x_up V 18 (a0.toNatClampNeg) ((V 18 (a0.toNatClampNeg)) ^^^ ((1 : Int32) <<< (a1 &&& 31)))) 18 (a1.toNatClampNeg)) ^^^ ((1 : Int32) <<< (a0 &&& 31))), .int a1, .ref 18]) (V' := (x_up V 18 (a0.toNatClampNeg) ((V 18 (a0.toNatClampNeg)) ^^^ ((1 : Int32) <<< (a1 &&& 31))))) rfl ?_
  refine q_ast rfl rfl hc2 ?_
  obtain rfl := Option.some.inj h
  exact q_ret rfl rfl
def f_X1_readBarred (V : xV) : Option (Int32 × xV) := x_b2 (f_X1_nextIsNumber (0 : Int32) ((V 11 0) - 1) V) (fun x3 V2 => if x3 = 0 then (some ((0 : Int32), V2)) else (x_b2 (f_X1_nextIsNumber (0 : Int32) ((V2 11 0) - 1) V2) (fun x7 V6 => if x7 = 0 then (some ((0 : Int32), V6)) else (if (V6 10 7) = (V2 10 7) then (some ((0 : Int32), V6)) else (x_b2 (f_X4_isBarred_14 (V2 10 7) (V6 10 7) V6) (fun x12 V11 => if x12 = 0 then (x_b1 (f_X4_turnPair_14 (V2 10 7) (V6 10 7) V11) (fun V15 => x_b2 (f_X1_nextIsEnd V15) (fun x18 V17 => if x18 = 0 ∨ x18 = 1 then some (x18, V17) else none))) else (some ((0 : Int32), V11))))))))
theorem f_X1_readBarred_ok {V W : xV} {x : Int32} (h : f_X1_readBarred V = some (x, W)) : x_Rn (4) 12 [.ref 10] V (some x) W := by
  refine ⟨3, kX1_readBarred, rfl, ?_⟩
  show x_Ex (4) kX1_readBarred 0 [.ref 10, .long 0, .long 0] [] V (some x) W
  unfold f_X1_readBarred at h
  refine q_go 7 (pc' := 11) (ls' := [.ref 10, .long 0, .long 0]) (st' := [.int ((V 11 0) - 1), .int (0 : Int32), .ref 10]) (V' := V) rfl ?_
  obtain ⟨x3, V2, hc1, h⟩ := x_b2_eq h
  refine q_call (d := (3)) (as := [.ref 10, .int (0 : Int32), .int ((V 11 0) - 1)]) (pc' := 14) (ls' := [.ref 10, .long 0, .long 0]) (st' := []) (r1 := some x3) rfl rfl ((f_X1_nextIsNumber_ok hc1).up (by decide)) ?_
  by_cases hc4 : x3 = 0
  · rw [if_pos hc4] at h
    refine q_if rfl (fun c => absurd hc4 (of_decide_eq_true c)) (fun _ => ?_)
    refine q_go 1 (pc' := 18) (ls' := [.ref 10, .long 0, .long 0]) (st' := [.int (0 : Int32)]) (V' := V2) rfl ?_
    obtain ⟨rfl, rfl⟩ := x_p2 h
    exact q_ret rfl rfl
  · rw [if_neg hc4] at h
    refine q_if rfl (fun _ => ?_) (fun c => absurd hc4 (of_decide_eq_false c))
    refine q_go 10 (pc' := 35) (ls' := [.ref 10, .int (V2 10 7), .long 0]) (st' := [.int ((V2 11 0) - 1), .int (0 : Int32), .ref 10]) (V' := V2) rfl ?_
    obtain ⟨x7, V6, hc5, h⟩ := x_b2_eq h
    refine q_call (d := (3)) (as := [.ref 10, .int (0 : Int32), .int ((V2 11 0) - 1)]) (pc' := 38) (ls' := [.ref 10, .int (V2 10 7), .long 0]) (st' := []) (r1 := some x7) rfl rfl ((f_X1_nextIsNumber_ok hc5).up (by decide)) ?_
    by_cases hc8 : x7 = 0
    · rw [if_pos hc8] at h
      refine q_if rfl (fun c => absurd hc8 (of_decide_eq_true c)) (fun _ => ?_)
      refine q_go 1 (pc' := 42) (ls' := [.ref 10, .int (V2 10 7), .long 0]) (st' := [.int (0 : Int32)]) (V' := V6) rfl ?_
      obtain ⟨rfl, rfl⟩ := x_p2 h
      exact q_ret rfl rfl
    · rw [if_neg hc8] at h
      refine q_if rfl (fun _ => ?_) (fun c => absurd hc8 (of_decide_eq_false c))
      refine q_go 5 (pc' := 50) (ls' := [.ref 10, .int (V2 10 7), .int (V6 10 7)]) (st' := [.int (V2 10 7), .int (V6 10 7)]) (V' := V6) rfl ?_
      by_cases hc9 : (V6 10 7) = (V2 10 7)
      · rw [if_pos hc9] at h
        refine q_icmp rfl (fun _ => ?_) (fun c => absurd hc9 (of_decide_eq_false c))
        refine q_go 1 (pc' := 66) (ls' := [.ref 10, .int (V2 10 7), .int (V6 10 7)]) (st' := [.int (0 : Int32)]) (V' := V6) rfl ?_
        obtain ⟨rfl, rfl⟩ := x_p2 h
        exact q_ret rfl rfl
      · rw [if_neg hc9] at h
        refine q_icmp rfl (fun c => absurd (of_decide_eq_true c) hc9) (fun _ => ?_)
        refine q_go 4 (pc' := 59) (ls' := [.ref 10, .int (V2 10 7), .int (V6 10 7)]) (st' := [.int (V6 10 7), .int (V2 10 7), .ref 14]) (V' := V6) rfl ?_
        obtain ⟨x12, V11, hc10, h⟩ := x_b2_eq h
        refine q_call (d := (3)) (as := [.ref 14, .int (V2 10 7), .int (V6 10 7)]) (pc' := 62) (ls' := [.ref 10, .int (V2 10 7), .int (V6 10 7)]) (st' := []) (r1 := some x12) rfl rfl ((f_X4_isBarred_14_ok hc10).up (by decide)) ?_
        by_cases hc13 : x12 = 0
        · rw [if_pos hc13] at h
          refine q_if rfl (fun _ => ?_) (fun c => absurd hc13 (of_decide_eq_false c))
          refine q_go 4 (pc' := 73) (ls' := [.ref 10, .int (V2 10 7), .int (V6 10 7)]) (st' := [.int (V6 10 7), .int (V2 10 7), .ref 14]) (V' := V11) rfl ?_
          obtain ⟨V15, hc14, h⟩ := x_b1_eq h
          refine q_call (d := (3)) (as := [.ref 14, .int (V2 10 7), .int (V6 10 7)]) (pc' := 76) (ls' := [.ref 10, .int (V2 10 7), .int (V6 10 7)]) (st' := []) (r1 := none) rfl rfl ((f_X4_turnPair_14_ok hc14).up (by decide)) ?_
          refine q_go 1 (pc' := 77) (ls' := [.ref 10, .int (V2 10 7), .int (V6 10 7)]) (st' := [.ref 10]) (V' := V15) rfl ?_
          obtain ⟨x18, V17, hc16, h⟩ := x_b2_eq h
          refine q_call (d := (3)) (as := [.ref 10]) (pc' := 80) (ls' := [.ref 10, .int (V2 10 7), .int (V6 10 7)]) (st' := []) (r1 := some x18) rfl rfl ((f_X1_nextIsEnd_ok hc16).up (by decide)) ?_
          refine x_em (p := x18 = 0 ∨ x18 = 1) (fun hz => by rw [if_neg hz] at h; cases h) (fun hc19 => ?_)
          rw [if_pos hc19] at h
          obtain ⟨rfl, rfl⟩ := x_p2 h
          exact q_retz rfl rfl hc19
        · rw [if_neg hc13] at h
          refine q_if rfl (fun c => absurd (of_decide_eq_true c) hc13) (fun _ => ?_)
          refine q_go 1 (pc' := 66) (ls' := [.ref 10, .int (V2 10 7), .int (V6 10 7)]) (st' := [.int (0 : Int32)]) (V' := V11) rfl ?_
          obtain ⟨rfl, rfl⟩ := x_p2 h
          exact q_ret rfl rfl
def f_X1_readItem (V : xV) : Option (Int32 × xV) := if (V 10 6) = 97 then (x_b2 (f_X1_readLoan V) (fun x8 V7 => if x8 = 0 ∨ x8 = 1 then some (x8, V7) else none)) else if (V 10 6) = 99 then (x_b2 (f_X1_readCases V) (fun x12 V11 => if x12 = 0 ∨ x12 = 1 then some (x12, V11) else none)) else if (V 10 6) = 108 then (x_b2 (f_X1_readLights V) (fun x16 V15 => if x16 = 0 ∨ x16 = 1 then some (x16, V15) else none)) else if (V 10 6) = 116 then (x_b2 (f_X1_readThing V) (fun x20 V19 => if x20 = 0 ∨ x20 = 1 then some (x20, V19) else none)) else if (V 10 6) = 120 then (x_b2 (f_X1_readBarred V) (fun x24 V23 => if x24 = 0 ∨ x24 = 1 then some (x24, V23) else none)) else (some ((0 : Int32), V))
theorem f_X1_readItem_ok {V W : xV} {x : Int32} (h : f_X1_readItem V = some (x, W)) : x_Rn (5) 8 [.ref 10] V (some x) W := by
  refine ⟨1, kX1_readItem, rfl, ?_⟩
  show x_Ex (5) kX1_readItem 0 [.ref 10] [] V (some x) W
  unfold f_X1_readItem at h
  refine q_go 2 (pc' := 4) (ls' := [.ref 10]) (st' := [.int (V 10 6)]) (V' := V) rfl ?_
  by_cases hc1 : (V 10 6) = 97
  · rw [if_pos hc1] at h
    refine q_step (pc' := 76) (ls' := [.ref 10]) (st' := []) (V' := V) rfl (by show some (Sum.inl (x_sw [(97, 76), (99, 56), (108, 61), (116, 66), (120, 71)] (V 10 6) 81, _)) = _; rw [x_sw_eq hc1.symm]) ?_
    refine q_go 1 (pc' := 77) (ls' := [.ref 10]) (st' := [.ref 10]) (V' := V) rfl ?_
    obtain ⟨x8, V7, hc6, h⟩ := x_b2_eq h
    refine q_call (d := (4)) (as := [.ref 10]) (pc' := 80) (ls' := [.ref 10]) (st' := []) (r1 := some x8) rfl rfl ((f_X1_readLoan_ok hc6).up (by decide)) ?_
    refine x_em (p := x8 = 0 ∨ x8 = 1) (fun hz => by rw [if_neg hz] at h; cases h) (fun hc9 => ?_)
    rw [if_pos hc9] at h
    obtain ⟨rfl, rfl⟩ := x_p2 h
    exact q_retz rfl rfl hc9
  rw [if_neg hc1] at h
  by_cases hc2 : (V 10 6) = 99
  · rw [if_pos hc2] at h
    refine q_step (pc' := 56) (ls' := [.ref 10]) (st' := []) (V' := V) rfl (by show some (Sum.inl (x_sw [(97, 76), (99, 56), (108, 61), (116, 66), (120, 71)] (V 10 6) 81, _)) = _; rw [x_sw_ne (fun z => hc1 z.symm), x_sw_eq hc2.symm]) ?_
    refine q_go 1 (pc' := 57) (ls' := [.ref 10]) (st' := [.ref 10]) (V' := V) rfl ?_
    obtain ⟨x12, V11, hc10, h⟩ := x_b2_eq h
    refine q_call (d := (4)) (as := [.ref 10]) (pc' := 60) (ls' := [.ref 10]) (st' := []) (r1 := some x12) rfl rfl ((f_X1_readCases_ok hc10).up (by decide)) ?_
    refine x_em (p := x12 = 0 ∨ x12 = 1) (fun hz => by rw [if_neg hz] at h; cases h) (fun hc13 => ?_)
    rw [if_pos hc13] at h
    obtain ⟨rfl, rfl⟩ := x_p2 h
    exact q_retz rfl rfl hc13
  rw [if_neg hc2] at h
  by_cases hc3 : (V 10 6) = 108
  · rw [if_pos hc3] at h
    refine q_step (pc' := 61) (ls' := [.ref 10]) (st' := []) (V' := V) rfl (by show some (Sum.inl (x_sw [(97, 76), (99, 56), (108, 61), (116, 66), (120, 71)] (V 10 6) 81, _)) = _; rw [x_sw_ne (fun z => hc1 z.symm), x_sw_ne (fun z => hc2 z.symm), x_sw_eq hc3.symm]) ?_
    refine q_go 1 (pc' := 62) (ls' := [.ref 10]) (st' := [.ref 10]) (V' := V) rfl ?_
    obtain ⟨x16, V15, hc14, h⟩ := x_b2_eq h
    refine q_call (d := (4)) (as := [.ref 10]) (pc' := 65) (ls' := [.ref 10]) (st' := []) (r1 := some x16) rfl rfl ((f_X1_readLights_ok hc14).up (by decide)) ?_
    refine x_em (p := x16 = 0 ∨ x16 = 1) (fun hz => by rw [if_neg hz] at h; cases h) (fun hc17 => ?_)
    rw [if_pos hc17] at h
    obtain ⟨rfl, rfl⟩ := x_p2 h
    exact q_retz rfl rfl hc17
  rw [if_neg hc3] at h
  by_cases hc4 : (V 10 6) = 116
  · rw [if_pos hc4] at h
    refine q_step (pc' := 66) (ls' := [.ref 10]) (st' := []) (V' := V) rfl (by show some (Sum.inl (x_sw [(97, 76), (99, 56), (108, 61), (116, 66), (120, 71)] (V 10 6) 81, _)) = _; rw [x_sw_ne (fun z => hc1 z.symm), x_sw_ne (fun z => hc2 z.symm), x_sw_ne (fun z => hc3 z.symm), x_sw_eq hc4.symm]) ?_
    refine q_go 1 (pc' := 67) (ls' := [.ref 10]) (st' := [.ref 10]) (V' := V) rfl ?_
    obtain ⟨x20, V19, hc18, h⟩ := x_b2_eq h
    refine q_call (d := (4)) (as := [.ref 10]) (pc' := 70) (ls' := [.ref 10]) (st' := []) (r1 := some x20) rfl rfl ((f_X1_readThing_ok hc18).up (by decide)) ?_
    refine x_em (p := x20 = 0 ∨ x20 = 1) (fun hz => by rw [if_neg hz] at h; cases h) (fun hc21 => ?_)
    rw [if_pos hc21] at h
    obtain ⟨rfl, rfl⟩ := x_p2 h
    exact q_retz rfl rfl hc21
  rw [if_neg hc4] at h
  by_cases hc5 : (V 10 6) = 120
  · rw [if_pos hc5] at h
    refine q_step (pc' := 71) (ls' := [.ref 10]) (st' := []) (V' := V) rfl (by show some (Sum.inl (x_sw [(97, 76), (99, 56), (108, 61), (116, 66), (120, 71)] (V 10 6) 81, _)) = _; rw [x_sw_ne (fun z => hc1 z.symm), x_sw_ne (fun z => hc2 z.symm), x_sw_ne (fun z => hc3 z.symm), x_sw_ne (fun z => hc4 z.symm), x_sw_eq hc5.symm]) ?_
    refine q_go 1 (pc' := 72) (ls' := [.ref 10]) (st' := [.ref 10]) (V' := V) rfl ?_
    obtain ⟨x24, V23, hc22, h⟩ := x_b2_eq h
    refine q_call (d := (4)) (as := [.ref 10]) (pc' := 75) (ls' := [.ref 10]) (st' := []) (r1 := some x24) rfl rfl ((f_X1_readBarred_ok hc22).up (by decide)) ?_
    refine x_em (p := x24 = 0 ∨ x24 = 1) (fun hz => by rw [if_neg hz] at h; cases h) (fun hc25 => ?_)
    rw [if_pos hc25] at h
    obtain ⟨rfl, rfl⟩ := x_p2 h
    exact q_retz rfl rfl hc25
  rw [if_neg hc5] at h
  refine q_step (pc' := 81) (ls' := [.ref 10]) (st' := []) (V' := V) rfl (by show some (Sum.inl (x_sw [(97, 76), (99, 56), (108, 61), (116, 66), (120, 71)] (V 10 6) 81, _)) = _; rw [x_sw_ne (fun z => hc1 z.symm), x_sw_ne (fun z => hc2 z.symm), x_sw_ne (fun z => hc3 z.symm), x_sw_ne (fun z => hc4 z.symm), x_sw_ne (fun z => hc5 z.symm), x_sw_nil]) ?_
  refine q_go 1 (pc' := 82) (ls' := [.ref 10]) (st' := [.int (0 : Int32)]) (V' := V) rfl ?_
  obtain ⟨rfl, rfl⟩ := x_p2 h
  exact q_ret rfl rfl
def f_X1_readAll_L44 (l1 : Int32) : Nat → (Int32 → xV → Option (Int32 × xV)) → Int32 → xV → Option (Int32 × xV)
  | 0, _, _, _ => none
  | n + 1, k, l2, V => if (V 10 3) < l2 then (k l2 V) else (x_b1 (f_X1_advance V) (fun V7 => if (V7 10 6) = (-1 : Int32) then (some (l2, V7)) else (x_b2 (f_X1_readItem V7) (fun x11 V10 => if x11 = 0 then (some ((-1 : Int32), V10)) else (f_X1_readAll_L44 l1 n k (l2 + (1 : Int32)) V10)))))
theorem f_X1_readAll_L44_ok (l1 : Int32) {k : Int32 → xV → Option (Int32 × xV)} {x : Int32} {W : xV} (hk : ∀ (l2 : Int32) (V : xV), k l2 V = some (x, W) → x_Ex (6) kX1_readAll 81 [.ref 10, .int l1, .int l2] [] V (some x) W) : ∀ (n : Nat) (l2 : Int32) (V : xV), f_X1_readAll_L44 l1 n k l2 V = some (x, W) → x_Ex (6) kX1_readAll 44 [.ref 10, .int l1, .int l2] [] V (some x) W := by
  intro n
  induction n with
  | zero => intro l2 V  h; cases h
  | succ n ih =>
    intro l2 V  h
    unfold f_X1_readAll_L44 at h
    refine q_go 3 (pc' := 49) (ls' := [.ref 10, .int l1, .int l2]) (st' := [.int (V 10 3), .int l2]) (V' := V) rfl ?_
    by_cases hc5 : (V 10 3) < l2
    · rw [if_pos hc5] at h
      refine q_icmp rfl (fun _ => ?_) (fun c => absurd hc5 (of_decide_eq_false c))
      exact hk l2 V  h
    · rw [if_neg hc5] at h
      refine q_icmp rfl (fun c => absurd (of_decide_eq_true c) hc5) (fun _ => ?_)
      refine q_go 1 (pc' := 53) (ls' := [.ref 10, .int l1, .int l2]) (st' := [.ref 10]) (V' := V) rfl ?_
      obtain ⟨V7, hc6, h⟩ := x_b1_eq h
      refine q_call (d := (5)) (as := [.ref 10]) (pc' := 56) (ls' := [.ref 10, .int l1, .int l2]) (st' := []) (r1 := none) rfl rfl ((f_X1_advance_ok hc6).up (by decide)) ?_
      refine q_go 3 (pc' := 61) (ls' := [.ref 10, .int l1, .int l2]) (st' := [.int (-1 : Int32), .int (V7 10 6)]) (V' := V7) rfl ?_
      by_cases hc8 : (V7 10 6) = (-1 : Int32)
      · rw [if_pos hc8] at h
        refine q_icmp rfl (fun c => absurd hc8 (of_decide_eq_true c)) (fun _ => ?_)
        refine q_go 1 (pc' := 65) (ls' := [.ref 10, .int l1, .int l2]) (st' := [.int l2]) (V' := V7) rfl ?_
        obtain ⟨rfl, rfl⟩ := x_p2 h
        exact q_ret rfl rfl
      · rw [if_neg hc8] at h
        refine q_icmp rfl (fun _ => ?_) (fun c => absurd hc8 (of_decide_eq_false c))
        refine q_go 1 (pc' := 67) (ls' := [.ref 10, .int l1, .int l2]) (st' := [.ref 10]) (V' := V7) rfl ?_
        obtain ⟨x11, V10, hc9, h⟩ := x_b2_eq h
        refine q_call (d := (5)) (as := [.ref 10]) (pc' := 70) (ls' := [.ref 10, .int l1, .int l2]) (st' := []) (r1 := some x11) rfl rfl ((f_X1_readItem_ok hc9).up (by decide)) ?_
        by_cases hc12 : x11 = 0
        · rw [if_pos hc12] at h
          refine q_if rfl (fun c => absurd hc12 (of_decide_eq_true c)) (fun _ => ?_)
          refine q_go 1 (pc' := 74) (ls' := [.ref 10, .int l1, .int l2]) (st' := [.int (-1 : Int32)]) (V' := V10) rfl ?_
          obtain ⟨rfl, rfl⟩ := x_p2 h
          exact q_ret rfl rfl
        · rw [if_neg hc12] at h
          refine q_if rfl (fun _ => ?_) (fun c => absurd hc12 (of_decide_eq_false c))
          refine q_go 2 (pc' := 44) (ls' := [.ref 10, .int l1, .int (l2 + (1 : Int32))]) (st' := []) (V' := V10) rfl ?_
          exact ih (l2 + (1 : Int32)) V10  h
def f_X1_readAll (a0 : Int32) (V : xV) : Option (Int32 × xV) := x_b1 (f_X3_beAsAtFirst_11 (x_up (x_up (x_up (x_up V 10 3 (if (100 : Int32) < a0 then (100 : Int32) else a0)) 10 4 (0 : Int32)) 10 8 (0 : Int32)) 10 9 (0 : Int32))) (fun V2 => x_b1 (f_X4_beAsAtFirst_14 V2) (fun V4 => f_X1_readAll_L44 a0 300 (fun l2_13 V14 => some ((-1 : Int32), V14)) (0 : Int32) V4))
theorem f_X1_readAll_ok {a0 : Int32} {V W : xV} {x : Int32} (h : f_X1_readAll a0 V = some (x, W)) : x_Rn (6) 7 [.ref 10, .int a0] V (some x) W := by
  refine ⟨3, kX1_readAll, rfl, ?_⟩
  show x_Ex (6) kX1_readAll 0 [.ref 10, .int a0, .long 0] [] V (some x) W
  unfold f_X1_readAll at h
  refine q_go 18 (pc' := 32) (ls' := [.ref 10, .int a0, .long 0]) (st' := [.ref 11]) (V' := (x_up (x_up (x_up (x_up V 10 3 (if (100 : Int32) < a0 then (100 : Int32) else a0)) 10 4 (0 : Int32)) 10 8 (0 : Int32)) 10 9 (0 : Int32))) rfl ?_
  obtain ⟨V2, hc1, h⟩ := x_b1_eq h
  refine q_call (d := (5)) (as := [.ref 11]) (pc' := 35) (ls' := [.ref 10, .int a0, .long 0]) (st' := []) (r1 := none) rfl rfl ((f_X3_beAsAtFirst_11_ok hc1).up (by decide)) ?_
  refine q_go 2 (pc' := 39) (ls' := [.ref 10, .int a0, .long 0]) (st' := [.ref 14]) (V' := V2) rfl ?_
  obtain ⟨V4, hc3, h⟩ := x_b1_eq h
  refine q_call (d := (5)) (as := [.ref 14]) (pc' := 42) (ls' := [.ref 10, .int a0, .long 0]) (st' := []) (r1 := none) rfl rfl ((f_X4_beAsAtFirst_14_ok hc3).up (by decide)) ?_
  refine q_go 2 (pc' := 44) (ls' := [.ref 10, .int a0, .int (0 : Int32)]) (st' := []) (V' := V4) rfl ?_
  refine f_X1_readAll_L44_ok a0 (fun l2_13 V14 h => ?_) 300 (0 : Int32) V4  h
  refine q_go 1 (pc' := 82) (ls' := [.ref 10, .int a0, .int l2_13]) (st' := [.int (-1 : Int32)]) (V' := V14) rfl ?_
  obtain ⟨rfl, rfl⟩ := x_p2 h
  exact q_ret rfl rfl
