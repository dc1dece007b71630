def f_X2_leavesAt_L17 (l1 : Int32) (l2 : Int32) (l3 : Int32) : Nat → (Int32 → Int32 → Int32 → xV → Option (Int32 × xV)) → Int32 → Int32 → Int32 → xV → Option (Int32 × xV)
  | 0, _, _, _, _, _ => none
  | n + 1, k, l4, l5, l6, V => if (4 : Int32) ≤ l6 then (k l4 l5 l6 V) else (if (V 76 11) ≤ l4 then (k l4 l5 l6 V) else (if x_in l4 8 = true then (if (((V 77 (l4.toNatClampNeg)) >>> (l1 &&& 31)) &&& 1) = 0 then (some (l4, V)) else (if x_in l1 6 = true then (if (l5 + (V 78 (l4.toNatClampNeg))) ≤ (V 79 (l1.toNatClampNeg)) then (f_X2_leavesAt_L17 l1 l2 l3 n k (l4 + (V 2 2)) (l5 + (V 78 (l4.toNatClampNeg))) (l6 + (1 : Int32)) V) else (some (l4, V))) else none)) else none))
theorem f_X2_leavesAt_L17_ok (l1 : Int32) (l2 : Int32) (l3 : Int32) {k : Int32 → Int32 → Int32 → xV → Option (Int32 × xV)} {x : Int32} {W : xV} (hk : ∀ (l4 : Int32) (l5 : Int32) (l6 : Int32) (V : xV), k l4 l5 l6 V = some (x, W) → x_Ex (0) kX2_leavesAt 90 [.ref 76, .int l1, .int l2, .int l3, .int l4, .int l5, .int l6] [] V (some x) W) : ∀ (n : Nat) (l4 : Int32) (l5 : Int32) (l6 : Int32) (V : xV), f_X2_leavesAt_L17 l1 l2 l3 n k l4 l5 l6 V = some (x, W) → x_Ex (0) kX2_leavesAt 17 [.ref 76, .int l1, .int l2, .int l3, .int l4, .int l5, .int l6] [] V (some x) W := by
  intro n
  induction n with
  | zero => intro l4 l5 l6 V  h; cases h
  | succ n ih =>
    intro l4 l5 l6 V  h
    unfold f_X2_leavesAt_L17 at h
    refine q_go 2 (pc' := 20) (ls' := [.ref 76, .int l1, .int l2, .int l3, .int l4, .int l5, .int l6]) (st' := [.int (4 : Int32), .int l6]) (V' := V) rfl ?_
    by_cases hc1 : (4 : Int32) ≤ l6
    · rw [if_pos hc1] at h
      refine q_icmp rfl (fun _ => ?_) (fun c => absurd hc1 (of_decide_eq_false c))
      exact hk l4 l5 l6 V  h
    · rw [if_neg hc1] at h
      refine q_icmp rfl (fun c => absurd (of_decide_eq_true c) hc1) (fun _ => ?_)
      refine q_go 3 (pc' := 29) (ls' := [.ref 76, .int l1, .int l2, .int l3, .int l4, .int l5, .int l6]) (st' := [.int (V 76 11), .int l4]) (V' := V) rfl ?_
      by_cases hc2 : (V 76 11) ≤ l4
      · rw [if_pos hc2] at h
        refine q_icmp rfl (fun _ => ?_) (fun c => absurd hc2 (of_decide_eq_false c))
        exact hk l4 l5 l6 V  h
      · rw [if_neg hc2] at h
        refine q_icmp rfl (fun c => absurd (of_decide_eq_true c) hc2) (fun _ => ?_)
        refine q_go 4 (pc' := 40) (ls' := [.ref 76, .int l1, .int l2, .int l3, .int l4, .int l5, .int l6]) (st' := [.int l4, .ref 78, .int l5]) (V' := V) rfl ?_
        refine x_em (p := x_in l4 8 = true) (fun hz => by rw [if_neg hz] at h; cases h) (fun hc3 => ?_)
        rw [if_pos hc3] at h
        refine q_ald (Or.inl ⟨rfl, rfl⟩) rfl hc3 ?_
        refine q_go 5 (pc' := 50) (ls' := [.ref 76, .int l1, .int l2, .int l3, .int l4, .int (l5 + (V 78 (l4.toNatClampNeg))), .int l6]) (st' := [.int l4, .ref 77]) (V' := V) rfl ?_
        refine q_ald (Or.inl ⟨rfl, rfl⟩) rfl hc3 ?_
        refine q_go 4 (pc' := 55) (ls' := [.ref 76, .int l1, .int l2, .int l3, .int l4, .int (l5 + (V 78 (l4.toNatClampNeg))), .int l6]) (st' := [.int (((V 77 (l4.toNatClampNeg)) >>> (l1 &&& 31)) &&& 1)]) (V' := V) rfl ?_
        by_cases hc4 : (((V 77 (l4.toNatClampNeg)) >>> (l1 &&& 31)) &&& 1) = 0
        · rw [if_pos hc4] at h
          refine q_if rfl (fun _ => ?_) (fun c => absurd hc4 (of_decide_eq_false c))
          refine q_go 1 (pc' := 71) (ls' := [.ref 76, .int l1, .int l2, .int l3, .int l4, .int (l5 + (V 78 (l4.toNatClampNeg))), .int l6]) (st' := [.int l4]) (V' := V) rfl ?_
          obtain ⟨rfl, rfl⟩ := x_p2 h
          exact q_ret rfl rfl
        · rw [if_neg hc4] at h
          refine q_if rfl (fun c => absurd (of_decide_eq_true c) hc4) (fun _ => ?_)
          refine q_go 4 (pc' := 65) (ls' := [.ref 76, .int l1, .int l2, .int l3, .int l4, .int (l5 + (V 78 (l4.toNatClampNeg))), .int l6]) (st' := [.int l1, .ref 79, .int (l5 + (V 78 (l4.toNatClampNeg)))]) (V' := V) rfl ?_
          refine x_em (p := x_in l1 6 = true) (fun hz => by rw [if_neg hz] at h; cases h) (fun hc5 => ?_)
          rw [if_pos hc5] at h
          refine q_ald (Or.inl ⟨rfl, rfl⟩) rfl hc5 ?_
          by_cases hc6 : (l5 + (V 78 (l4.toNatClampNeg))) ≤ (V 79 (l1.toNatClampNeg))
          · rw [if_pos hc6] at h
            refine q_icmp rfl (fun _ => ?_) (fun c => absurd hc6 (of_decide_eq_false c))
            refine q_go 8 (pc' := 17) (ls' := [.ref 76, .int l1, .int l2, .int l3, .int (l4 + (V 2 2)), .int (l5 + (V 78 (l4.toNatClampNeg))), .int (l6 + (1 : Int32))]) (st' := []) (V' := V) rfl ?_
            exact ih (l4 + (V 2 2)) (l5 + (V 78 (l4.toNatClampNeg))) (l6 + (1 : Int32)) V  h
          · rw [if_neg hc6] at h
            refine q_icmp rfl (fun c => absurd (of_decide_eq_true c) hc6) (fun _ => ?_)
            refine q_go 1 (pc' := 71) (ls' := [.ref 76, .int l1, .int l2, .int l3, .int l4, .int (l5 + (V 78 (l4.toNatClampNeg))), .int l6]) (st' := [.int l4]) (V' := V) rfl ?_
            obtain ⟨rfl, rfl⟩ := x_p2 h
            exact q_ret rfl rfl
def f_X2_leavesAt (a0 : Int32) (a1 : Int32) (a2 : Int32) (V : xV) : Option (Int32 × xV) := f_X2_leavesAt_L17 a0 a1 a2 300 (fun l4_7 l5_8 l6_9 V10 => some (l4_7, V10)) (a1 + (V 2 2)) a2 (0 : Int32) V
theorem f_X2_leavesAt_ok {a0 : Int32} {a1 : Int32} {a2 : Int32} {V W : xV} {x : Int32} (h : f_X2_leavesAt a0 a1 a2 V = some (x, W)) : x_Rn (0) 31 [.ref 76, .int a0, .int a1, .int a2] V (some x) W := by
  refine ⟨7, kX2_leavesAt, rfl, ?_⟩
  show x_Ex (0) kX2_leavesAt 0 [.ref 76, .int a0, .int a1, .int a2, .long 0, .long 0, .long 0] [] V (some x) W
  unfold f_X2_leavesAt at h
  refine q_go 10 (pc' := 17) (ls' := [.ref 76, .int a0, .int a1, .int a2, .int (a1 + (V 2 2)), .int a2, .int (0 : Int32)]) (st' := []) (V' := V) rfl ?_
  refine f_X2_leavesAt_L17_ok a0 a1 a2 (fun l4_7 l5_8 l6_9 V10 h => ?_) 300 (a1 + (V 2 2)) a2 (0 : Int32) V  h
  refine q_go 1 (pc' := 92) (ls' := [.ref 76, .int a0, .int a1, .int a2, .int l4_7, .int l5_8, .int l6_9]) (st' := [.int l4_7]) (V' := V10) rfl ?_
  obtain ⟨rfl, rfl⟩ := x_p2 h
  exact q_ret rfl rfl
def f_X2_changesBeside (a0 : Int32) (V : xV) : Option (Int32 × xV) := if (V 2 2) = (1 : Int32) then (some ((0 : Int32), V)) else (if a0 = 0 then (some (((V 84 1) - 1), V)) else (if x_in (a0 - 1) 8 = true then (some ((V 85 ((a0 - 1).toNatClampNeg)), V)) else none))
theorem f_X2_changesBeside_ok {a0 : Int32} {V W : xV} {x : Int32} (h : f_X2_changesBeside a0 V = some (x, W)) : x_Rn (0) 35 [.ref 76, .int a0] V (some x) W := by
  refine ⟨2, kX2_changesBeside, rfl, ?_⟩
  show x_Ex (0) kX2_changesBeside 0 [.ref 76, .int a0] [] V (some x) W
  unfold f_X2_changesBeside at h
  refine q_go 4 (pc' := 8) (ls' := [.ref 76, .int a0]) (st' := [.int (1 : Int32), .int (V 2 2)]) (V' := V) rfl ?_
  by_cases hc1 : (V 2 2) = (1 : Int32)
  · rw [if_pos hc1] at h
    refine q_icmp rfl (fun c => absurd hc1 (of_decide_eq_true c)) (fun _ => ?_)
    refine q_go 1 (pc' := 12) (ls' := [.ref 76, .int a0]) (st' := [.int (0 : Int32)]) (V' := V) rfl ?_
    obtain ⟨rfl, rfl⟩ := x_p2 h
    exact q_ret rfl rfl
  · rw [if_neg hc1] at h
    refine q_icmp rfl (fun _ => ?_) (fun c => absurd hc1 (of_decide_eq_false c))
    refine q_go 1 (pc' := 14) (ls' := [.ref 76, .int a0]) (st' := [.int a0]) (V' := V) rfl ?_
    by_cases hc2 : a0 = 0
    · rw [if_pos hc2] at h
      refine q_if rfl (fun c => absurd hc2 (of_decide_eq_true c)) (fun _ => ?_)
      refine q_go 3 (pc' := 22) (ls' := [.ref 76, .int a0]) (st' := [.int (1 : Int32), .ref 84]) (V' := V) rfl ?_
      refine q_ald (Or.inl ⟨rfl, rfl⟩) rfl rfl ?_
      refine q_go 3 (pc' := 36) (ls' := [.ref 76, .int a0]) (st' := [.int ((V 84 1) - 1)]) (V' := V) rfl ?_
      obtain ⟨rfl, rfl⟩ := x_p2 h
      exact q_ret rfl rfl
    · rw [if_neg hc2] at h
      refine q_if rfl (fun _ => ?_) (fun c => absurd hc2 (of_decide_eq_false c))
      refine q_go 5 (pc' := 35) (ls' := [.ref 76, .int a0]) (st' := [.int (a0 - 1), .ref 85]) (V' := V) rfl ?_
      refine x_em (p := x_in (a0 - 1) 8 = true) (fun hz => by rw [if_neg hz] at h; cases h) (fun hc3 => ?_)
      rw [if_pos hc3] at h
      refine q_ald (Or.inl ⟨rfl, rfl⟩) rfl hc3 ?_
      obtain ⟨rfl, rfl⟩ := x_p2 h
      exact q_ret rfl rfl
def f_X2_place_J36 (fl : Int32 → Int32 → Int32 → xV → Option xV) (l1 : Int32) (l2 : Int32) (l3 : Int32) (l4 : Int32) (l5 : Int32) (l6 : Int32) (V : xV) : Option (xV) := if x_in l1 6 = true then (if x_in l2 8 = true then (if l6 < 0 then (some V) else (if (V 79 (l1.toNatClampNeg)) < ((V 81 (l1.toNatClampNeg)) + (V 78 (l2.toNatClampNeg))) then (some V) else (if ((V 81 (l1.toNatClampNeg)) + (V 78 (l2.toNatClampNeg))) < (V 76 16) then (x_b2 (f_X2_leavesAt l1 l2 ((V 81 (l1.toNatClampNeg)) + (V 78 (l2.toNatClampNeg))) V) (fun x9 V8 => if x_in x9 10 = true then (x_b2 (f_X2_changesBeside l2 (x_up V8 85 (l2.toNatClampNeg) (V8 84 (x9.toNatClampNeg)))) (fun x13 V12 => if l6 < (((x_up V8 85 (l2.toNatClampNeg) (V8 84 (x9.toNatClampNeg))) 85 (l2.toNatClampNeg)) + x13) then (some V12) else (x_b1 (fl (l2 + 1) l6 (if l4 < ((V 81 (l1.toNatClampNeg)) + (V 78 (l2.toNatClampNeg))) then ((V 81 (l1.toNatClampNeg)) + (V 78 (l2.toNatClampNeg))) else l4) (x_up (x_up V12 82 (l2.toNatClampNeg) l1) 81 (l1.toNatClampNeg) ((V 81 (l1.toNatClampNeg)) + (V 78 (l2.toNatClampNeg))))) (fun V16 => some (x_up V16 81 (l1.toNatClampNeg) (V 81 (l1.toNatClampNeg))))))) else none)) else (some V)))) else none) else none
theorem f_X2_place_J36_ok (fl : Int32 → Int32 → Int32 → xV → Option xV) {d : Nat} (hd : 5 ≤ d) (hfl : ∀ (s c m : Int32) (V W : xV), fl s c m V = some W → x_Rn d 32 [.ref 76, .int s, .int c, .int m] V none W) (l1 : Int32) (l2 : Int32) (l3 : Int32) (l4 : Int32) (l5 : Int32) (l6 : Int32) (V : xV) (g7 : Value) (g8 : Value)  {W : xV} (h : f_X2_place_J36 fl l1 l2 l3 l4 l5 l6 V = some W) : x_Ex (d + 1) kX2_place 36 [.ref 76, .int l1, .int l2, .int l3, .int l4, .int l5, .int l6, g7, g8] [] V none W := by
  unfold f_X2_place_J36 at h
  refine q_go 3 (pc' := 41) (ls' := [.ref 76, .int l1, .int l2, .int l3, .int l4, .int l5, .int l6, g7, g8]) (st' := [.int l1, .ref 81]) (V' := V) rfl ?_
  refine x_em (p := x_in l1 6 = true) (fun hz => by rw [if_neg hz] at h; cases h) (fun hc2 => ?_)
  rw [if_pos hc2] at h
  refine q_ald (Or.inl ⟨rfl, rfl⟩) rfl hc2 ?_
  refine q_go 5 (pc' := 51) (ls' := [.ref 76, .int l1, .int l2, .int l3, .int l4, .int l5, .int l6, .int (V 81 (l1.toNatClampNeg)), g8]) (st' := [.int l2, .ref 78, .int (V 81 (l1.toNatClampNeg))]) (V' := V) rfl ?_
  refine x_em (p := x_in l2 8 = true) (fun hz => by rw [if_neg hz] at h; cases h) (fun hc3 => ?_)
  rw [if_pos hc3] at h
  refine q_ald (Or.inl ⟨rfl, rfl⟩) rfl hc3 ?_
  refine q_go 3 (pc' := 57) (ls' := [.ref 76, .int l1, .int l2, .int l3, .int l4, .int l5, .int l6, .int (V 81 (l1.toNatClampNeg)), .int ((V 81 (l1.toNatClampNeg)) + (V 78 (l2.toNatClampNeg)))]) (st' := [.int l6]) (V' := V) rfl ?_
  by_cases hc4 : l6 < 0
  · rw [if_pos hc4] at h
    refine q_if rfl (fun _ => ?_) (fun c => absurd hc4 (of_decide_eq_false c))
    obtain rfl := Option.some.inj h
    exact q_ret rfl rfl
  · rw [if_neg hc4] at h
    refine q_if rfl (fun c => absurd (of_decide_eq_true c) hc4) (fun _ => ?_)
    refine q_go 4 (pc' := 67) (ls' := [.ref 76, .int l1, .int l2, .int l3, .int l4, .int l5, .int l6, .int (V 81 (l1.toNatClampNeg)), .int ((V 81 (l1.toNatClampNeg)) + (V 78 (l2.toNatClampNeg)))]) (st' := [.int l1, .ref 79, .int ((V 81 (l1.toNatClampNeg)) + (V 78 (l2.toNatClampNeg)))]) (V' := V) rfl ?_
    refine q_ald (Or.inl ⟨rfl, rfl⟩) rfl hc2 ?_
    by_cases hc5 : (V 79 (l1.toNatClampNeg)) < ((V 81 (l1.toNatClampNeg)) + (V 78 (l2.toNatClampNeg)))
    · rw [if_pos hc5] at h
      refine q_icmp rfl (fun _ => ?_) (fun c => absurd hc5 (of_decide_eq_false c))
      obtain rfl := Option.some.inj h
      exact q_ret rfl rfl
    · rw [if_neg hc5] at h
      refine q_icmp rfl (fun c => absurd (of_decide_eq_true c) hc5) (fun _ => ?_)
      refine q_go 3 (pc' := 77) (ls' := [.ref 76, .int l1, .int l2, .int l3, .int l4, .int l5, .int l6, .int (V 81 (l1.toNatClampNeg)), .int ((V 81 (l1.toNatClampNeg)) + (V 78 (l2.toNatClampNeg)))]) (st' := [.int (V 76 16), .int ((V 81 (l1.toNatClampNeg)) + (V 78 (l2.toNatClampNeg)))]) (V' := V) rfl ?_
      by_cases hc6 : ((V 81 (l1.toNatClampNeg)) + (V 78 (l2.toNatClampNeg))) < (V 76 16)
      · rw [if_pos hc6] at h
        refine q_icmp rfl (fun _ => ?_) (fun c => absurd hc6 (of_decide_eq_false c))
        refine q_go 9 (pc' := 95) (ls' := [.ref 76, .int l1, .int l2, .int l3, .int l4, .int l5, .int l6, .int (V 81 (l1.toNatClampNeg)), .int ((V 81 (l1.toNatClampNeg)) + (V 78 (l2.toNatClampNeg)))]) (st' := [.int ((V 81 (l1.toNatClampNeg)) + (V 78 (l2.toNatClampNeg))), .int l2, .int l1, .ref 76, .ref 84, .int l2, .ref 85]) (V' := V) rfl ?_
        obtain ⟨x9, V8, hc7, h⟩ := x_b2_eq h
        refine q_call (d := d) (as := [.ref 76, .int l1, .int l2, .int ((V 81 (l1.toNatClampNeg)) + (V 78 (l2.toNatClampNeg)))]) (pc' := 98) (ls' := [.ref 76, .int l1, .int l2, .int l3, .int l4, .int l5, .int l6, .int (V 81 (l1.toNatClampNeg)), .int ((V 81 (l1.toNatClampNeg)) + (V 78 (l2.toNatClampNeg)))]) (st' := [.ref 84, .int l2, .ref 85]) (r1 := some x9) rfl rfl ((f_X2_leavesAt_ok hc7).up (by omega)) ?_
        refine x_em (p := x_in x9 10 = true) (fun hz => by rw [if_neg hz] at h; cases h) (fun hc10 => ?_)
        rw [if_pos hc10] at h
        refine q_ald (Or.inl ⟨rfl, rfl⟩) rfl hc10 ?_
        refine q_ast rfl rfl hc3 ?_
        refine q_go 3 (pc' := 105) (ls' := [.ref 76, .int l1, .int l2, .int l3, .int l4, .int l5, .int l6, .int (V 81 (l1.toNatClampNeg)), .int ((V 81 (l1.toNatClampNeg)) + (V 78 (l2.toNatClampNeg)))]) (st' := [.int l2, .ref 85]) (V' := (x_up V8 85 (l2.toNatClampNeg) (V8 84 (x9.toNatClampNeg)))) rfl ?_
        refine q_ald (Or.inl ⟨rfl, rfl⟩) rfl hc3 ?_
        refine q_go 2 (pc' := 108) (ls' := [.ref 76, .int l1, .int l2, .int l3, .int l4, .int l5, .int l6, .int (V 81 (l1.toNatClampNeg)), .int ((V 81 (l1.toNatClampNeg)) + (V 78 (l2.toNatClampNeg)))]) (st' := [.int l2, .ref 76, .int ((x_up V8 85 (l2.toNatClampNeg) (V8 84 (x9.toNatClampNeg))) 85 (l2.toNatClampNeg))]) (V' := (x_up V8 85 (l2.toNatClampNeg) (V8 84 (x9.toNatClampNeg)))) rfl ?_
        obtain ⟨x13, V12, hc11, h⟩ := x_b2_eq h
        refine q_call (d := d) (as := [.ref 76, .int l2]) (pc' := 111) (ls' := [.ref 76, .int l1, .int l2, .int l3, .int l4, .int l5, .int l6, .int (V 81 (l1.toNatClampNeg)), .int ((V 81 (l1.toNatClampNeg)) + (V 78 (l2.toNatClampNeg)))]) (st' := [.int ((x_up V8 85 (l2.toNatClampNeg) (V8 84 (x9.toNatClampNeg))) 85 (l2.toNatClampNeg))]) (r1 := some x13) rfl rfl ((f_X2_changesBeside_ok hc11).up (by omega)) ?_
        refine q_go 2 (pc' := 114) (ls' := [.ref 76, .int l1, .int l2, .int l3, .int l4, .int l5, .int l6, .int (V 81 (l1.toNatClampNeg)), .int ((V 81 (l1.toNatClampNeg)) + (V 78 (l2.toNatClampNeg)))]) (st' := [.int l6, .int (((x_up V8 85 (l2.toNatClampNeg) (V8 84 (x9.toNatClampNeg))) 85 (l2.toNatClampNeg)) + x13)]) (V' := V12) rfl ?_
        by_cases hc14 : l6 < (((x_up V8 85 (l2.toNatClampNeg) (V8 84 (x9.toNatClampNeg))) 85 (l2.toNatClampNeg)) + x13)
        · rw [if_pos hc14] at h
          refine q_icmp rfl (fun _ => ?_) (fun c => absurd hc14 (of_decide_eq_false c))
          obtain rfl := Option.some.inj h
          exact q_ret rfl rfl
        · rw [if_neg hc14] at h
          refine q_icmp rfl (fun c => absurd (of_decide_eq_true c) hc14) (fun _ => ?_)
          refine q_go 4 (pc' := 123) (ls' := [.ref 76, .int l1, .int l2, .int l3, .int l4, .int l5, .int l6, .int (V 81 (l1.toNatClampNeg)), .int ((V 81 (l1.toNatClampNeg)) + (V 78 (l2.toNatClampNeg)))]) (st' := [.int l1, .int l2, .ref 82]) (V' := V12) rfl ?_
          refine q_ast rfl rfl hc3 ?_
          refine q_go 4 (pc' := 131) (ls' := [.ref 76, .int l1, .int l2, .int l3, .int l4, .int l5, .int l6, .int (V 81 (l1.toNatClampNeg)), .int ((V 81 (l1.toNatClampNeg)) + (V 78 (l2.toNatClampNeg)))]) (st' := [.int ((V 81 (l1.toNatClampNeg)) + (V 78 (l2.toNatClampNeg))), .int l1, .ref 81]) (V' := (x_up V12 82 (l2.toNatClampNeg) l1)) rfl ?_
          refine q_ast rfl rfl hc2 ?_
          refine q_go 8 (pc' := 145) (ls' := [.ref 76, .int l1, .int l2, .int l3, .int l4, .int l5, .int l6, .int (V 81 (l1.toNatClampNeg)), .int ((V 81 (l1.toNatClampNeg)) + (V 78 (l2.toNatClampNeg)))]) (st' := [.int (if l4 < ((V 81 (l1.toNatClampNeg)) + (V 78 (l2.toNatClampNeg))) then ((V 81 (l1.toNatClampNeg)) + (V 78 (l2.toNatClampNeg))) else l4), .int l6, .int (l2 + 1), .ref 76]) (V' := (x_up (x_up V12 82 (l2.toNatClampNeg) l1) 81 (l1.toNatClampNeg) ((V 81 (l1.toNatClampNeg)) + (V 78 (l2.toNatClampNeg))))) rfl ?_
          obtain ⟨V16, hc15, h⟩ := x_b1_eq h
          refine q_call (d := d) (as := [.ref 76, .int (l2 + 1), .int l6, .int (if l4 < ((V 81 (l1.toNatClampNeg)) + (V 78 (l2.toNatClampNeg))) then ((V 81 (l1.toNatClampNeg)) + (V 78 (l2.toNatClampNeg))) else l4)]) (pc' := 148) (ls' := [.ref 76, .int l1, .int l2, .int l3, .int l4, .int l5, .int l6, .int (V 81 (l1.toNatClampNeg)), .int ((V 81 (l1.toNatClampNeg)) + (V 78 (l2.toNatClampNeg)))]) (st' := []) (r1 := none) rfl rfl ((hfl _ _ _ _ _ hc15)) ?_
          refine q_go 4 (pc' := 155) (ls' := [.ref 76, .int l1, .int l2, .int l3, .int l4, .int l5, .int l6, .int (V 81 (l1.toNatClampNeg)), .int ((V 81 (l1.toNatClampNeg)) + (V 78 (l2.toNatClampNeg)))]) (st' := [.int (V 81 (l1.toNatClampNeg)), .int l1, .ref 81]) (V' := V16) rfl ?_
          refine q_ast rfl rfl hc2 ?_
          obtain rfl := Option.some.inj h
          exact q_ret rfl rfl
      · rw [if_neg hc6] at h
        refine q_icmp rfl (fun c => absurd (of_decide_eq_true c) hc6) (fun _ => ?_)
        obtain rfl := Option.some.inj h
        exact q_ret rfl rfl
def f_X2_place (fl : Int32 → Int32 → Int32 → xV → Option xV) (a0 : Int32) (a1 : Int32) (a2 : Int32) (a3 : Int32) (V : xV) : Option (xV) := if (a1 - (V 2 2)) < 0 then (f_X2_place_J36 fl a0 a1 a2 a3 (a1 - (V 2 2)) a2 V) else (if x_in (a1 - (V 2 2)) 8 = true then (if (V 82 ((a1 - (V 2 2)).toNatClampNeg)) = a0 then (f_X2_place_J36 fl a0 a1 a2 a3 (a1 - (V 2 2)) a2 V) else (f_X2_place_J36 fl a0 a1 a2 a3 (a1 - (V 2 2)) (a2 - 1) V)) else none)
theorem f_X2_place_ok (fl : Int32 → Int32 → Int32 → xV → Option xV) {d : Nat} (hd : 5 ≤ d) (hfl : ∀ (s c m : Int32) (V W : xV), fl s c m V = some W → x_Rn d 32 [.ref 76, .int s, .int c, .int m] V none W) {a0 : Int32} {a1 : Int32} {a2 : Int32} {a3 : Int32} {V W : xV}  (h : f_X2_place fl a0 a1 a2 a3 V = some W) : x_Rn (d + 1) 34 [.ref 76, .int a0, .int a1, .int a2, .int a3] V none W := by
  refine ⟨9, kX2_place, rfl, ?_⟩
  show x_Ex (d + 1) kX2_place 0 [.ref 76, .int a0, .int a1, .int a2, .int a3, .long 0, .long 0, .long 0, .long 0] [] V none W
  unfold f_X2_place at h
  refine q_go 7 (pc' := 13) (ls' := [.ref 76, .int a0, .int a1, .int a2, .int a3, .int (a1 - (V 2 2)), .long 0, .long 0, .long 0]) (st' := [.int (a1 - (V 2 2))]) (V' := V) rfl ?_
  by_cases hc1 : (a1 - (V 2 2)) < 0
  · rw [if_pos hc1] at h
    refine q_if rfl (fun _ => ?_) (fun c => absurd hc1 (of_decide_eq_false c))
    refine q_go 2 (pc' := 36) (ls' := [.ref 76, .int a0, .int a1, .int a2, .int a3, .int (a1 - (V 2 2)), .int a2, .long 0, .long 0]) (st' := []) (V' := V) rfl ?_
    exact f_X2_place_J36_ok fl hd hfl a0 a1 a2 a3 (a1 - (V 2 2)) a2 V (.long 0) (.long 0) h
  · rw [if_neg hc1] at h
    refine q_if rfl (fun c => absurd (of_decide_eq_true c) hc1) (fun _ => ?_)
    refine q_go 3 (pc' := 22) (ls' := [.ref 76, .int a0, .int a1, .int a2, .int a3, .int (a1 - (V 2 2)), .long 0, .long 0, .long 0]) (st' := [.int (a1 - (V 2 2)), .ref 82]) (V' := V) rfl ?_
    refine x_em (p := x_in (a1 - (V 2 2)) 8 = true) (fun hz => by rw [if_neg hz] at h; cases h) (fun hc17 => ?_)
    rw [if_pos hc17] at h
    refine q_ald (Or.inl ⟨rfl, rfl⟩) rfl hc17 ?_
    refine q_go 1 (pc' := 24) (ls' := [.ref 76, .int a0, .int a1, .int a2, .int a3, .int (a1 - (V 2 2)), .long 0, .long 0, .long 0]) (st' := [.int a0, .int (V 82 ((a1 - (V 2 2)).toNatClampNeg))]) (V' := V) rfl ?_
    by_cases hc18 : (V 82 ((a1 - (V 2 2)).toNatClampNeg)) = a0
    · rw [if_pos hc18] at h
      refine q_icmp rfl (fun _ => ?_) (fun c => absurd hc18 (of_decide_eq_false c))
      refine q_go 2 (pc' := 36) (ls' := [.ref 76, .int a0, .int a1, .int a2, .int a3, .int (a1 - (V 2 2)), .int a2, .long 0, .long 0]) (st' := []) (V' := V) rfl ?_
      exact f_X2_place_J36_ok fl hd hfl a0 a1 a2 a3 (a1 - (V 2 2)) a2 V (.long 0) (.long 0) h
    · rw [if_neg hc18] at h
      refine q_icmp rfl (fun c => absurd (of_decide_eq_true c) hc18) (fun _ => ?_)
      refine q_go 5 (pc' := 36) (ls' := [.ref 76, .int a0, .int a1, .int a2, .int a3, .int (a1 - (V 2 2)), .int (a2 - 1), .long 0, .long 0]) (st' := []) (V' := V) rfl ?_
      exact f_X2_place_J36_ok fl hd hfl a0 a1 a2 a3 (a1 - (V 2 2)) (a2 - 1) V (.long 0) (.long 0) h
def f_X2_besideFirst (a0 : Int32) (V : xV) : Option (Int32 × xV) := if x_in (a0 - 1) 8 = true then (if x_in a0 8 = true then (if x_in (V 82 ((a0 - 1).toNatClampNeg)) 6 = true then (if (V 76 13) = 0 then (some (((V 77 (a0.toNatClampNeg)) &&& ((V 80 ((V 82 ((a0 - 1).toNatClampNeg)).toNatClampNeg)) ^^^ (-1 : Int32))), V)) else (if (V 77 (a0.toNatClampNeg)) = (V 77 ((a0 - 1).toNatClampNeg)) then (some ((((V 77 (a0.toNatClampNeg)) &&& ((V 80 ((V 82 ((a0 - 1).toNatClampNeg)).toNatClampNeg)) ^^^ (-1 : Int32))) &&& ((-1 : Int32) <<< ((V 82 ((a0 - 1).toNatClampNeg)) &&& 31))), V)) else (some (((V 77 (a0.toNatClampNeg)) &&& ((V 80 ((V 82 ((a0 - 1).toNatClampNeg)).toNatClampNeg)) ^^^ (-1 : Int32))), V)))) else none) else none) else none
theorem f_X2_besideFirst_ok {a0 : Int32} {V W : xV} {x : Int32} (h : f_X2_besideFirst a0 V = some (x, W)) : x_Rn (0) 33 [.ref 76, .int a0] V (some x) W := by
  refine ⟨4, kX2_besideFirst, rfl, ?_⟩
  show x_Ex (0) kX2_besideFirst 0 [.ref 76, .int a0, .long 0, .long 0] [] V (some x) W
  unfold f_X2_besideFirst at h
  refine q_go 5 (pc' := 7) (ls' := [.ref 76, .int a0, .long 0, .long 0]) (st' := [.int (a0 - 1), .ref 82]) (V' := V) rfl ?_
  refine x_em (p := x_in (a0 - 1) 8 = true) (fun hz => by rw [if_neg hz] at h; cases h) (fun hc1 => ?_)
  rw [if_pos hc1] at h
  refine q_ald (Or.inl ⟨rfl, rfl⟩) rfl hc1 ?_
  refine q_go 4 (pc' := 14) (ls' := [.ref 76, .int a0, .int (V 82 ((a0 - 1).toNatClampNeg)), .long 0]) (st' := [.int a0, .ref 77]) (V' := V) rfl ?_
  refine x_em (p := x_in a0 8 = true) (fun hz => by rw [if_neg hz] at h; cases h) (fun hc2 => ?_)
  rw [if_pos hc2] at h
  refine q_ald (Or.inl ⟨rfl, rfl⟩) rfl hc2 ?_
  refine q_go 3 (pc' := 20) (ls' := [.ref 76, .int a0, .int (V 82 ((a0 - 1).toNatClampNeg)), .long 0]) (st' := [.int (V 82 ((a0 - 1).toNatClampNeg)), .ref 80, .int (V 77 (a0.toNatClampNeg))]) (V' := V) rfl ?_
  refine x_em (p := x_in (V 82 ((a0 - 1).toNatClampNeg)) 6 = true) (fun hz => by rw [if_neg hz] at h; cases h) (fun hc3 => ?_)
  rw [if_pos hc3] at h
  refine q_ald (Or.inl ⟨rfl, rfl⟩) rfl hc3 ?_
  refine q_go 6 (pc' := 29) (ls' := [.ref 76, .int a0, .int (V 82 ((a0 - 1).toNatClampNeg)), .int ((V 77 (a0.toNatClampNeg)) &&& ((V 80 ((V 82 ((a0 - 1).toNatClampNeg)).toNatClampNeg)) ^^^ (-1 : Int32)))]) (st' := [.int (V 76 13)]) (V' := V) rfl ?_
  by_cases hc4 : (V 76 13) = 0
  · rw [if_pos hc4] at h
    refine q_if rfl (fun _ => ?_) (fun c => absurd hc4 (of_decide_eq_false c))
    refine q_go 1 (pc' := 58) (ls' := [.ref 76, .int a0, .int (V 82 ((a0 - 1).toNatClampNeg)), .int ((V 77 (a0.toNatClampNeg)) &&& ((V 80 ((V 82 ((a0 - 1).toNatClampNeg)).toNatClampNeg)) ^^^ (-1 : Int32)))]) (st' := [.int ((V 77 (a0.toNatClampNeg)) &&& ((V 80 ((V 82 ((a0 - 1).toNatClampNeg)).toNatClampNeg)) ^^^ (-1 : Int32)))]) (V' := V) rfl ?_
    obtain ⟨rfl, rfl⟩ := x_p2 h
    exact q_ret rfl rfl
  · rw [if_neg hc4] at h
    refine q_if rfl (fun c => absurd (of_decide_eq_true c) hc4) (fun _ => ?_)
    refine q_go 3 (pc' := 37) (ls' := [.ref 76, .int a0, .int (V 82 ((a0 - 1).toNatClampNeg)), .int ((V 77 (a0.toNatClampNeg)) &&& ((V 80 ((V 82 ((a0 - 1).toNatClampNeg)).toNatClampNeg)) ^^^ (-1 : Int32)))]) (st' := [.int a0, .ref 77]) (V' := V) rfl ?_
    refine q_ald (Or.inl ⟨rfl, rfl⟩) rfl hc2 ?_
    refine q_go 5 (pc' := 45) (ls' := [.ref 76, .int a0, .int (V 82 ((a0 - 1).toNatClampNeg)), .int ((V 77 (a0.toNatClampNeg)) &&& ((V 80 ((V 82 ((a0 - 1).toNatClampNeg)).toNatClampNeg)) ^^^ (-1 : Int32)))]) (st' := [.int (a0 - 1), .ref 77, .int (V 77 (a0.toNatClampNeg))]) (V' := V) rfl ?_
    refine q_ald (Or.inl ⟨rfl, rfl⟩) rfl hc1 ?_
    by_cases hc5 : (V 77 (a0.toNatClampNeg)) = (V 77 ((a0 - 1).toNatClampNeg))
    · rw [if_pos hc5] at h
      refine q_icmp rfl (fun c => absurd hc5 (of_decide_eq_true c)) (fun _ => ?_)
      refine q_go 6 (pc' := 58) (ls' := [.ref 76, .int a0, .int (V 82 ((a0 - 1).toNatClampNeg)), .int ((V 77 (a0.toNatClampNeg)) &&& ((V 80 ((V 82 ((a0 - 1).toNatClampNeg)).toNatClampNeg)) ^^^ (-1 : Int32)))]) (st' := [.int (((V 77 (a0.toNatClampNeg)) &&& ((V 80 ((V 82 ((a0 - 1).toNatClampNeg)).toNatClampNeg)) ^^^ (-1 : Int32))) &&& ((-1 : Int32) <<< ((V 82 ((a0 - 1).toNatClampNeg)) &&& 31)))]) (V' := V) rfl ?_
      obtain ⟨rfl, rfl⟩ := x_p2 h
      exact q_ret rfl rfl
    · rw [if_neg hc5] at h
      refine q_icmp rfl (fun _ => ?_) (fun c => absurd hc5 (of_decide_eq_false c))
      refine q_go 1 (pc' := 58) (ls' := [.ref 76, .int a0, .int (V 82 ((a0 - 1).toNatClampNeg)), .int ((V 77 (a0.toNatClampNeg)) &&& ((V 80 ((V 82 ((a0 - 1).toNatClampNeg)).toNatClampNeg)) ^^^ (-1 : Int32)))]) (st' := [.int ((V 77 (a0.toNatClampNeg)) &&& ((V 80 ((V 82 ((a0 - 1).toNatClampNeg)).toNatClampNeg)) ^^^ (-1 : Int32)))]) (V' := V) rfl ?_
      obtain ⟨rfl, rfl⟩ := x_p2 h
      exact q_ret rfl rfl
def f_X2_take (a0 : Int32) (V : xV) : Option (xV) := if ¬ (V 76 11) < 0 ∧ (V 76 11).toNatClampNeg ≤ 8 then (if (V 76 12) = 0 then (some (x_up (x_up (x_up (x_cpV V 82 83 ((V 76 11).toNatClampNeg)) 76 14 (1 : Int32)) 76 15 a0) 76 16 a0)) else (some (x_up (x_up (x_up (x_cpV V 82 83 ((V 76 11).toNatClampNeg)) 76 14 (1 : Int32)) 76 15 a0) 76 16 (0 : Int32)))) else none
theorem f_X2_take_ok {a0 : Int32} {V W : xV}  (h : f_X2_take a0 V = some W) : x_Rn (0) 36 [.ref 76, .int a0] V none W := by
  refine ⟨2, kX2_take, rfl, ?_⟩
  show x_Ex (0) kX2_take 0 [.ref 76, .int a0] [] V none W
  unfold f_X2_take at h
  refine q_go 8 (pc' := 14) (ls' := [.ref 76, .int a0]) (st' := [.int (V 76 11), .int (0 : Int32), .ref 83, .int (0 : Int32), .ref 82]) (V' := V) rfl ?_
  refine x_em (p := ¬ (V 76 11) < 0 ∧ (V 76 11).toNatClampNeg ≤ 8) (fun hz => by rw [if_neg hz] at h; cases h) (fun hc1 => ?_)
  rw [if_pos hc1] at h
  refine q_cpy rfl rfl rfl hc1.1 hc1.2 hc1.2 (Nat.le_of_ble_eq_true rfl) ?_
  refine q_go 9 (pc' := 32) (ls' := [.ref 76, .int a0]) (st' := [.int (V 76 12), .ref 76]) (V' := (x_up (x_up (x_cpV V 82 83 ((V 76 11).toNatClampNeg)) 76 14 (1 : Int32)) 76 15 a0)) rfl ?_
  by_cases hc2 : (V 76 12) = 0
  · rw [if_pos hc2] at h
    refine q_if rfl (fun _ => ?_) (fun c => absurd hc2 (of_decide_eq_false c))
    refine q_go 2 (pc' := 43) (ls' := [.ref 76, .int a0]) (st' := []) (V' := (x_up (x_up (x_up (x_cpV V 82 83 ((V 76 11).toNatClampNeg)) 76 14 (1 : Int32)) 76 15 a0) 76 16 a0)) rfl ?_
    obtain rfl := Option.some.inj h
    exact q_ret rfl rfl
  · rw [if_neg hc2] at h
    refine q_if rfl (fun c => absurd (of_decide_eq_true c) hc2) (fun _ => ?_)
    refine q_go 3 (pc' := 43) (ls' := [.ref 76, .int a0]) (st' := []) (V' := (x_up (x_up (x_up (x_cpV V 82 83 ((V 76 11).toNatClampNeg)) 76 14 (1 : Int32)) 76 15 a0) 76 16 (0 : Int32))) rfl ?_
    obtain rfl := Option.some.inj h
    exact q_ret rfl rfl
def f_X2_fill_L63 (pl : Int32 → Int32 → Int32 → Int32 → xV → Option xV) (l1 : Int32) (l2 : Int32) (l3 : Int32) (l4 : Int32) : Nat → (Int32 → xV → Option (xV)) → Int32 → xV → Option (xV)
  | 0, _, _, _ => none
  | n + 1, k, l5, V => if (V 2 0) ≤ l5 then (k l5 V) else (if (V 76 16) ≤ l3 then (k l5 V) else (if ((l4 >>> (l5 &&& 31)) &&& 1) = (1 : Int32) then (x_b1 (pl l5 l1 l2 l3 V) (fun V10 => f_X2_fill_L63 pl l1 l2 l3 l4 n k (l5 + (1 : Int32)) V10)) else (f_X2_fill_L63 pl l1 l2 l3 l4 n k (l5 + (1 : Int32)) V)))
theorem f_X2_fill_L63_ok (pl : Int32 → Int32 → Int32 → Int32 → xV → Option xV) {d : Nat} (hd : 5 ≤ d) (hpl : ∀ (t s c m : Int32) (V W : xV), pl t s c m V = some W → x_Rn d 34 [.ref 76, .int t, .int s, .int c, .int m] V none W) (l1 : Int32) (l2 : Int32) (l3 : Int32) (l4 : Int32) {k : Int32 → xV → Option (xV)}  {W : xV} (hk : ∀ (l5 : Int32) (V : xV), k l5 V = some W → x_Ex (d + 1) kX2_fill 109 [.ref 76, .int l1, .int l2, .int l3, .int l4, .int l5] [] V none W) : ∀ (n : Nat) (l5 : Int32) (V : xV), f_X2_fill_L63 pl l1 l2 l3 l4 n k l5 V = some W → x_Ex (d + 1) kX2_fill 63 [.ref 76, .int l1, .int l2, .int l3, .int l4, .int l5] [] V none W := by
  intro n
  induction n with
  | zero => intro l5 V  h; cases h
  | succ n ih =>
    intro l5 V  h
    unfold f_X2_fill_L63 at h
    refine q_go 4 (pc' := 72) (ls' := [.ref 76, .int l1, .int l2, .int l3, .int l4, .int l5]) (st' := [.int (V 2 0), .int l5]) (V' := V) rfl ?_
    by_cases hc6 : (V 2 0) ≤ l5
    · rw [if_pos hc6] at h
      refine q_icmp rfl (fun _ => ?_) (fun c => absurd hc6 (of_decide_eq_false c))
      exact hk l5 V  h
    · rw [if_neg hc6] at h
      refine q_icmp rfl (fun c => absurd (of_decide_eq_true c) hc6) (fun _ => ?_)
      refine q_go 3 (pc' := 80) (ls' := [.ref 76, .int l1, .int l2, .int l3, .int l4, .int l5]) (st' := [.int (V 76 16), .int l3]) (V' := V) rfl ?_
      by_cases hc7 : (V 76 16) ≤ l3
      · rw [if_pos hc7] at h
        refine q_icmp rfl (fun _ => ?_) (fun c => absurd hc7 (of_decide_eq_false c))
        exact hk l5 V  h
      · rw [if_neg hc7] at h
        refine q_icmp rfl (fun c => absurd (of_decide_eq_true c) hc7) (fun _ => ?_)
        refine q_go 6 (pc' := 91) (ls' := [.ref 76, .int l1, .int l2, .int l3, .int l4, .int l5]) (st' := [.int (1 : Int32), .int ((l4 >>> (l5 &&& 31)) &&& 1)]) (V' := V) rfl ?_
        by_cases hc8 : ((l4 >>> (l5 &&& 31)) &&& 1) = (1 : Int32)
        · rw [if_pos hc8] at h
          refine q_icmp rfl (fun c => absurd hc8 (of_decide_eq_true c)) (fun _ => ?_)
          refine q_go 5 (pc' := 100) (ls' := [.ref 76, .int l1, .int l2, .int l3, .int l4, .int l5]) (st' := [.int l3, .int l2, .int l1, .int l5, .ref 76]) (V' := V) rfl ?_
          obtain ⟨V10, hc9, h⟩ := x_b1_eq h
          refine q_call (d := d) (as := [.ref 76, .int l5, .int l1, .int l2, .int l3]) (pc' := 103) (ls' := [.ref 76, .int l1, .int l2, .int l3, .int l4, .int l5]) (st' := []) (r1 := none) rfl rfl ((hpl _ _ _ _ _ _ hc9)) ?_
          refine q_go 2 (pc' := 63) (ls' := [.ref 76, .int l1, .int l2, .int l3, .int l4, .int (l5 + (1 : Int32))]) (st' := []) (V' := V10) rfl ?_
          exact ih (l5 + (1 : Int32)) V10  h
        · rw [if_neg hc8] at h
          refine q_icmp rfl (fun _ => ?_) (fun c => absurd hc8 (of_decide_eq_false c))
          refine q_go 2 (pc' := 63) (ls' := [.ref 76, .int l1, .int l2, .int l3, .int l4, .int (l5 + (1 : Int32))]) (st' := []) (V' := V) rfl ?_
          exact ih (l5 + (1 : Int32)) V  h
def f_X2_fill_J13 (pl : Int32 → Int32 → Int32 → Int32 → xV → Option xV) (l1 : Int32) (l2 : Int32) (l3 : Int32) (V : xV) : Option (xV) := if l1 < 0 then (some V) else (if l1 < (V 76 11) then (if (V 2 2) = (2 : Int32) then (if (l1 &&& 1) = (1 : Int32) then (x_b2 (f_X2_besideFirst l1 V) (fun x19 V18 => f_X2_fill_L63 pl l1 l2 l3 x19 300 (fun l5_20 V21 => some V21) (0 : Int32) V18)) else (if x_in l1 8 = true then (f_X2_fill_L63 pl l1 l2 l3 (V 77 (l1.toNatClampNeg)) 300 (fun l5_15 V16 => some V16) (0 : Int32) V) else none)) else (if x_in l1 8 = true then (f_X2_fill_L63 pl l1 l2 l3 (V 77 (l1.toNatClampNeg)) 300 (fun l5_11 V12 => some V12) (0 : Int32) V) else none)) else (some V))
theorem f_X2_fill_J13_ok (pl : Int32 → Int32 → Int32 → Int32 → xV → Option xV) {d : Nat} (hd : 5 ≤ d) (hpl : ∀ (t s c m : Int32) (V W : xV), pl t s c m V = some W → x_Rn d 34 [.ref 76, .int t, .int s, .int c, .int m] V none W) (l1 : Int32) (l2 : Int32) (l3 : Int32) (V : xV) (g4 : Value) (g5 : Value)  {W : xV} (h : f_X2_fill_J13 pl l1 l2 l3 V = some W) : x_Ex (d + 1) kX2_fill 13 [.ref 76, .int l1, .int l2, .int l3, g4, g5] [] V none W := by
  unfold f_X2_fill_J13 at h
  refine q_go 1 (pc' := 14) (ls' := [.ref 76, .int l1, .int l2, .int l3, g4, g5]) (st' := [.int l1]) (V' := V) rfl ?_
  by_cases hc2 : l1 < 0
  · rw [if_pos hc2] at h
    refine q_if rfl (fun _ => ?_) (fun c => absurd hc2 (of_decide_eq_false c))
    obtain rfl := Option.some.inj h
    exact q_ret rfl rfl
  · rw [if_neg hc2] at h
    refine q_if rfl (fun c => absurd (of_decide_eq_true c) hc2) (fun _ => ?_)
    refine q_go 3 (pc' := 22) (ls' := [.ref 76, .int l1, .int l2, .int l3, g4, g5]) (st' := [.int (V 76 11), .int l1]) (V' := V) rfl ?_
    by_cases hc3 : l1 < (V 76 11)
    · rw [if_pos hc3] at h
      refine q_icmp rfl (fun _ => ?_) (fun c => absurd hc3 (of_decide_eq_false c))
      refine q_go 4 (pc' := 34) (ls' := [.ref 76, .int l1, .int l2, .int l3, g4, g5]) (st' := [.int (2 : Int32), .int (V 2 2)]) (V' := V) rfl ?_
      by_cases hc4 : (V 2 2) = (2 : Int32)
      · rw [if_pos hc4] at h
        refine q_icmp rfl (fun c => absurd hc4 (of_decide_eq_true c)) (fun _ => ?_)
        refine q_go 4 (pc' := 41) (ls' := [.ref 76, .int l1, .int l2, .int l3, g4, g5]) (st' := [.int (1 : Int32), .int (l1 &&& 1)]) (V' := V) rfl ?_
        by_cases hc13 : (l1 &&& 1) = (1 : Int32)
        · rw [if_pos hc13] at h
          refine q_icmp rfl (fun c => absurd hc13 (of_decide_eq_true c)) (fun _ => ?_)
          refine q_go 2 (pc' := 46) (ls' := [.ref 76, .int l1, .int l2, .int l3, g4, g5]) (st' := [.int l1, .ref 76]) (V' := V) rfl ?_
          obtain ⟨x19, V18, hc17, h⟩ := x_b2_eq h
          refine q_call (d := d) (as := [.ref 76, .int l1]) (pc' := 49) (ls' := [.ref 76, .int l1, .int l2, .int l3, g4, g5]) (st' := []) (r1 := some x19) rfl rfl ((f_X2_besideFirst_ok hc17).up (by omega)) ?_
          refine q_go 4 (pc' := 63) (ls' := [.ref 76, .int l1, .int l2, .int l3, .int x19, .int (0 : Int32)]) (st' := []) (V' := V18) rfl ?_
          refine f_X2_fill_L63_ok pl hd hpl l1 l2 l3 x19 (fun l5_20 V21 h => ?_) 300 (0 : Int32) V18  h
          obtain rfl := Option.some.inj h
          exact q_ret rfl rfl
        · rw [if_neg hc13] at h
          refine q_icmp rfl (fun _ => ?_) (fun c => absurd hc13 (of_decide_eq_false c))
          refine q_go 3 (pc' := 57) (ls' := [.ref 76, .int l1, .int l2, .int l3, g4, g5]) (st' := [.int l1, .ref 77]) (V' := V) rfl ?_
          refine x_em (p := x_in l1 8 = true) (fun hz => by rw [if_neg hz] at h; cases h) (fun hc14 => ?_)
          rw [if_pos hc14] at h
          refine q_ald (Or.inl ⟨rfl, rfl⟩) rfl hc14 ?_
          refine q_go 3 (pc' := 63) (ls' := [.ref 76, .int l1, .int l2, .int l3, .int (V 77 (l1.toNatClampNeg)), .int (0 : Int32)]) (st' := []) (V' := V) rfl ?_
          refine f_X2_fill_L63_ok pl hd hpl l1 l2 l3 (V 77 (l1.toNatClampNeg)) (fun l5_15 V16 h => ?_) 300 (0 : Int32) V  h
          obtain rfl := Option.some.inj h
          exact q_ret rfl rfl
      · rw [if_neg hc4] at h
        refine q_icmp rfl (fun _ => ?_) (fun c => absurd hc4 (of_decide_eq_false c))
        refine q_go 3 (pc' := 57) (ls' := [.ref 76, .int l1, .int l2, .int l3, g4, g5]) (st' := [.int l1, .ref 77]) (V' := V) rfl ?_
        refine x_em (p := x_in l1 8 = true) (fun hz => by rw [if_neg hz] at h; cases h) (fun hc5 => ?_)
        rw [if_pos hc5] at h
        refine q_ald (Or.inl ⟨rfl, rfl⟩) rfl hc5 ?_
        refine q_go 3 (pc' := 63) (ls' := [.ref 76, .int l1, .int l2, .int l3, .int (V 77 (l1.toNatClampNeg)), .int (0 : Int32)]) (st' := []) (V' := V) rfl ?_
        refine f_X2_fill_L63_ok pl hd hpl l1 l2 l3 (V 77 (l1.toNatClampNeg)) (fun l5_11 V12 h => ?_) 300 (0 : Int32) V  h
        obtain rfl := Option.some.inj h
        exact q_ret rfl rfl
    · rw [if_neg hc3] at h
      refine q_icmp rfl (fun c => absurd (of_decide_eq_true c) hc3) (fun _ => ?_)
      obtain rfl := Option.some.inj h
      exact q_ret rfl rfl
def f_X2_fill (pl : Int32 → Int32 → Int32 → Int32 → xV → Option xV) (a0 : Int32) (a1 : Int32) (a2 : Int32) (V : xV) : Option (xV) := if a0 = (V 76 11) then (x_b1 (f_X2_take a2 V) (fun V23 => f_X2_fill_J13 pl a0 a1 a2 V23)) else (f_X2_fill_J13 pl a0 a1 a2 V)
theorem f_X2_fill_ok (pl : Int32 → Int32 → Int32 → Int32 → xV → Option xV) {d : Nat} (hd : 5 ≤ d) (hpl : ∀ (t s c m : Int32) (V W : xV), pl t s c m V = some W → x_Rn d 34 [.ref 76, .int t, .int s, .int c, .int m] V none W) {a0 : Int32} {a1 : Int32} {a2 : Int32} {V W : xV}  (h : f_X2_fill pl a0 a1 a2 V = some W) : x_Rn (d + 1) 32 [.ref 76, .int a0, .int a1, .int a2] V none W := by
  refine ⟨6, kX2_fill, rfl, ?_⟩
  show x_Ex (d + 1) kX2_fill 0 [.ref 76, .int a0, .int a1, .int a2, .long 0, .long 0] [] V none W
  unfold f_X2_fill at h
  refine q_go 3 (pc' := 5) (ls' := [.ref 76, .int a0, .int a1, .int a2, .long 0, .long 0]) (st' := [.int (V 76 11), .int a0]) (V' := V) rfl ?_
  by_cases hc1 : a0 = (V 76 11)
  · rw [if_pos hc1] at h
    refine q_icmp rfl (fun c => absurd hc1 (of_decide_eq_true c)) (fun _ => ?_)
    refine q_go 2 (pc' := 10) (ls' := [.ref 76, .int a0, .int a1, .int a2, .long 0, .long 0]) (st' := [.int a2, .ref 76]) (V' := V) rfl ?_
    obtain ⟨V23, hc22, h⟩ := x_b1_eq h
    refine q_call (d := d) (as := [.ref 76, .int a2]) (pc' := 13) (ls' := [.ref 76, .int a0, .int a1, .int a2, .long 0, .long 0]) (st' := []) (r1 := none) rfl rfl ((f_X2_take_ok hc22).up (by omega)) ?_
    exact f_X2_fill_J13_ok pl hd hpl a0 a1 a2 V23 (.long 0) (.long 0) h
  · rw [if_neg hc1] at h
    refine q_icmp rfl (fun _ => ?_) (fun c => absurd hc1 (of_decide_eq_false c))
    exact f_X2_fill_J13_ok pl hd hpl a0 a1 a2 V (.long 0) (.long 0) h
def f_fill : Nat → Int32 → Int32 → Int32 → xV → Option xV
  | 0, _, _, _, _ => none
  | K + 1, s, c, m, V => f_X2_fill (f_X2_place (f_fill K)) s c m V
theorem f_fill_ok : ∀ (K : Nat) (s c m : Int32) (V W : xV), f_fill K s c m V = some W → x_Rn (2 * K + 6) 32 [.ref 76, .int s, .int c, .int m] V none W := by
  intro K
  induction K with
  | zero => intro s c m V W h; cases h
  | succ K ih =>
    intro s c m V W h
    exact f_X2_fill_ok _ (d := 2 * K + 7) (by omega) (fun t s c m V W h => f_X2_place_ok _ (d := 2 * K + 6) (by omega) ih h) h
