def f_X7_begins_L27 : Nat → (Int32 → xV → Option (xV)) → Int32 → xV → Option (xV)
  | 0, _, _, _ => none
  | n + 1, k, l1, V => if (4 : Int32) ≤ l1 then (k l1 V) else (if x_in l1 4 = true then (f_X7_begins_L27 n k (l1 + (1 : Int32)) (x_up V 100 (l1.toNatClampNeg) (5 : Int32))) else none)
theorem f_X7_begins_L27_ok {k : Int32 → xV → Option (xV)}  {W : xV} (hk : ∀ (l1 : Int32) (V : xV), k l1 V = some W → x_Ex (0) kX7_begins 45 [.ref 96, .int l1] [] V none W) : ∀ (n : Nat) (l1 : Int32) (V : xV), f_X7_begins_L27 n k l1 V = some W → x_Ex (0) kX7_begins 27 [.ref 96, .int l1] [] V none W := by
  intro n
  induction n with
  | zero => intro l1 V  h; cases h
  | succ n ih =>
    intro l1 V  h
    unfold f_X7_begins_L27 at h
    refine q_go 2 (pc' := 29) (ls' := [.ref 96, .int l1]) (st' := [.int (4 : Int32), .int l1]) (V' := V) rfl ?_
    by_cases hc1 : (4 : Int32) ≤ l1
    · rw [if_pos hc1] at h
      refine q_icmp rfl (fun _ => ?_) (fun c => absurd hc1 (of_decide_eq_false c))
      exact hk l1 V  h
    · rw [if_neg hc1] at h
      refine q_icmp rfl (fun c => absurd (of_decide_eq_true c) hc1) (fun _ => ?_)
      refine q_go 4 (pc' := 38) (ls' := [.ref 96, .int l1]) (st' := [.int (5 : Int32), .int l1, .ref 100]) (V' := V) rfl ?_
      refine x_em (p := x_in l1 4 = true) (fun hz => by rw [if_neg hz] at h; cases h) (fun hc2 => ?_)
      rw [if_pos hc2] at h
      refine q_ast rfl rfl hc2 ?_
      refine q_go 2 (pc' := 27) (ls' := [.ref 96, .int (l1 + (1 : Int32))]) (st' := []) (V' := (x_up V 100 (l1.toNatClampNeg) (5 : Int32))) rfl ?_
      exact ih (l1 + (1 : Int32)) (x_up V 100 (l1.toNatClampNeg) (5 : Int32))  h
def f_X7_begins_L47 : Nat → (Int32 → xV → Option (xV)) → Int32 → xV → Option (xV)
  | 0, _, _, _ => none
  | n + 1, k, l1, V => if (27 : Int32) ≤ l1 then (k l1 V) else (if (20 : Int32) ≤ l1 then (if (26 : Int32) ≤ l1 then (if x_in l1 27 = true then (f_X7_begins_L47 n k (l1 + (1 : Int32)) (x_up V 102 (l1.toNatClampNeg) (15 : Int32))) else none) else (if x_in l1 27 = true then (f_X7_begins_L47 n k (l1 + (1 : Int32)) (x_up V 102 (l1.toNatClampNeg) (0 : Int32))) else none)) else (if x_in l1 27 = true then (f_X7_begins_L47 n k (l1 + (1 : Int32)) (x_up V 102 (l1.toNatClampNeg) (-9 : Int32))) else none))
theorem f_X7_begins_L47_ok {k : Int32 → xV → Option (xV)}  {W : xV} (hk : ∀ (l1 : Int32) (V : xV), k l1 V = some W → x_Ex (0) kX7_begins 88 [.ref 96, .int l1] [] V none W) : ∀ (n : Nat) (l1 : Int32) (V : xV), f_X7_begins_L47 n k l1 V = some W → x_Ex (0) kX7_begins 47 [.ref 96, .int l1] [] V none W := by
  intro n
  induction n with
  | zero => intro l1 V  h; cases h
  | succ n ih =>
    intro l1 V  h
    unfold f_X7_begins_L47 at h
    refine q_go 2 (pc' := 50) (ls' := [.ref 96, .int l1]) (st' := [.int (27 : Int32), .int l1]) (V' := V) rfl ?_
    by_cases hc5 : (27 : Int32) ≤ l1
    · rw [if_pos hc5] at h
      refine q_icmp rfl (fun _ => ?_) (fun c => absurd hc5 (of_decide_eq_false c))
      exact hk l1 V  h
    · rw [if_neg hc5] at h
      refine q_icmp rfl (fun c => absurd (of_decide_eq_true c) hc5) (fun _ => ?_)
      refine q_go 5 (pc' := 61) (ls' := [.ref 96, .int l1]) (st' := [.int (20 : Int32), .int l1, .int l1, .ref 102]) (V' := V) rfl ?_
      by_cases hc6 : (20 : Int32) ≤ l1
      · rw [if_pos hc6] at h
        refine q_icmp rfl (fun _ => ?_) (fun c => absurd hc6 (of_decide_eq_false c))
        refine q_go 2 (pc' := 72) (ls' := [.ref 96, .int l1]) (st' := [.int (26 : Int32), .int l1, .int l1, .ref 102]) (V' := V) rfl ?_
        by_cases hc7 : (26 : Int32) ≤ l1
        · rw [if_pos hc7] at h
          refine q_icmp rfl (fun _ => ?_) (fun c => absurd hc7 (of_decide_eq_false c))
          refine q_go 1 (pc' := 81) (ls' := [.ref 96, .int l1]) (st' := [.int (15 : Int32), .int l1, .ref 102]) (V' := V) rfl ?_
          refine x_em (p := x_in l1 27 = true) (fun hz => by rw [if_neg hz] at h; cases h) (fun hc8 => ?_)
          rw [if_pos hc8] at h
          refine q_ast rfl rfl hc8 ?_
          refine q_go 2 (pc' := 47) (ls' := [.ref 96, .int (l1 + (1 : Int32))]) (st' := []) (V' := (x_up V 102 (l1.toNatClampNeg) (15 : Int32))) rfl ?_
          exact ih (l1 + (1 : Int32)) (x_up V 102 (l1.toNatClampNeg) (15 : Int32))  h
        · rw [if_neg hc7] at h
          refine q_icmp rfl (fun c => absurd (of_decide_eq_true c) hc7) (fun _ => ?_)
          refine q_go 2 (pc' := 81) (ls' := [.ref 96, .int l1]) (st' := [.int (0 : Int32), .int l1, .ref 102]) (V' := V) rfl ?_
          refine x_em (p := x_in l1 27 = true) (fun hz => by rw [if_neg hz] at h; cases h) (fun hc9 => ?_)
          rw [if_pos hc9] at h
          refine q_ast rfl rfl hc9 ?_
          refine q_go 2 (pc' := 47) (ls' := [.ref 96, .int (l1 + (1 : Int32))]) (st' := []) (V' := (x_up V 102 (l1.toNatClampNeg) (0 : Int32))) rfl ?_
          exact ih (l1 + (1 : Int32)) (x_up V 102 (l1.toNatClampNeg) (0 : Int32))  h
      · rw [if_neg hc6] at h
        refine q_icmp rfl (fun c => absurd (of_decide_eq_true c) hc6) (fun _ => ?_)
        refine q_go 2 (pc' := 81) (ls' := [.ref 96, .int l1]) (st' := [.int (-9 : Int32), .int l1, .ref 102]) (V' := V) rfl ?_
        refine x_em (p := x_in l1 27 = true) (fun hz => by rw [if_neg hz] at h; cases h) (fun hc10 => ?_)
        rw [if_pos hc10] at h
        refine q_ast rfl rfl hc10 ?_
        refine q_go 2 (pc' := 47) (ls' := [.ref 96, .int (l1 + (1 : Int32))]) (st' := []) (V' := (x_up V 102 (l1.toNatClampNeg) (-9 : Int32))) rfl ?_
        exact ih (l1 + (1 : Int32)) (x_up V 102 (l1.toNatClampNeg) (-9 : Int32))  h
def f_X7_begins (V : xV) : Option (xV) := f_X7_begins_L27 300 (fun l1_3 V4 => f_X7_begins_L47 300 (fun l1_11 V12 => some V12) (0 : Int32) V4) (0 : Int32) (x_up (x_up (x_up (x_up (x_up V 96 13 (0 : Int32)) 96 14 (4 : Int32)) 96 15 (2 : Int32)) 96 16 (0 : Int32)) 96 17 (0 : Int32))
theorem f_X7_begins_ok {V W : xV}  (h : f_X7_begins V = some W) : x_Rn (0) 106 [.ref 96] V none W := by
  refine ⟨2, kX7_begins, rfl, ?_⟩
  show x_Ex (0) kX7_begins 0 [.ref 96, .long 0] [] V none W
  unfold f_X7_begins at h
  refine q_go 17 (pc' := 27) (ls' := [.ref 96, .int (0 : Int32)]) (st' := []) (V' := (x_up (x_up (x_up (x_up (x_up V 96 13 (0 : Int32)) 96 14 (4 : Int32)) 96 15 (2 : Int32)) 96 16 (0 : Int32)) 96 17 (0 : Int32))) rfl ?_
  refine f_X7_begins_L27_ok (fun l1_3 V4 h => ?_) 300 (0 : Int32) (x_up (x_up (x_up (x_up (x_up V 96 13 (0 : Int32)) 96 14 (4 : Int32)) 96 15 (2 : Int32)) 96 16 (0 : Int32)) 96 17 (0 : Int32))  h
  refine q_go 2 (pc' := 47) (ls' := [.ref 96, .int (0 : Int32)]) (st' := []) (V' := V4) rfl ?_
  refine f_X7_begins_L47_ok (fun l1_11 V12 h => ?_) 300 (0 : Int32) V4  h
  obtain rfl := Option.some.inj h
  exact q_ret rfl rfl
def f_X7_letterAt (a0 : Int32) (V : xV) : Option (Int32 × xV) := if (V 96 2) ≤ a0 then (some ((-1 : Int32), V)) else (if x_in a0 100 = true then (some ((V 97 (a0.toNatClampNeg)), V)) else none)
theorem f_X7_letterAt_ok {a0 : Int32} {V W : xV} {x : Int32} (h : f_X7_letterAt a0 V = some (x, W)) : x_Rn (0) 101 [.ref 96, .int a0] V (some x) W := by
  refine ⟨2, kX7_letterAt, rfl, ?_⟩
  show x_Ex (0) kX7_letterAt 0 [.ref 96, .int a0] [] V (some x) W
  unfold f_X7_letterAt at h
  refine q_go 3 (pc' := 5) (ls' := [.ref 96, .int a0]) (st' := [.int (V 96 2), .int a0]) (V' := V) rfl ?_
  by_cases hc1 : (V 96 2) ≤ a0
  · rw [if_pos hc1] at h
    refine q_icmp rfl (fun _ => ?_) (fun c => absurd hc1 (of_decide_eq_false c))
    refine q_go 1 (pc' := 18) (ls' := [.ref 96, .int a0]) (st' := [.int (-1 : Int32)]) (V' := V) rfl ?_
    obtain ⟨rfl, rfl⟩ := x_p2 h
    exact q_ret rfl rfl
  · rw [if_neg hc1] at h
    refine q_icmp rfl (fun c => absurd (of_decide_eq_true c) hc1) (fun _ => ?_)
    refine q_go 3 (pc' := 13) (ls' := [.ref 96, .int a0]) (st' := [.int a0, .ref 97]) (V' := V) rfl ?_
    refine x_em (p := x_in a0 100 = true) (fun hz => by rw [if_neg hz] at h; cases h) (fun hc2 => ?_)
    rw [if_pos hc2] at h
    refine q_ald (Or.inl ⟨rfl, rfl⟩) rfl hc2 ?_
    refine q_go 1 (pc' := 18) (ls' := [.ref 96, .int a0]) (st' := [.int (V 97 (a0.toNatClampNeg))]) (V' := V) rfl ?_
    obtain ⟨rfl, rfl⟩ := x_p2 h
    exact q_ret rfl rfl
def f_X7_in (a0 : Int32) (a1 : Int32) (a2 : Int32) (V : xV) : Option (Int32 × xV) := if a0 < a1 then (some ((0 : Int32), V)) else (if a2 < a0 then (some ((0 : Int32), V)) else (some ((1 : Int32), V)))
theorem f_X7_in_ok {a0 : Int32} {a1 : Int32} {a2 : Int32} {V W : xV} {x : Int32} (h : f_X7_in a0 a1 a2 V = some (x, W)) : x_Rn (0) 97 [.int a0, .int a1, .int a2] V (some x) W := by
  refine ⟨3, kX7_in, rfl, ?_⟩
  show x_Ex (0) kX7_in 0 [.int a0, .int a1, .int a2] [] V (some x) W
  unfold f_X7_in at h
  refine q_go 2 (pc' := 2) (ls' := [.int a0, .int a1, .int a2]) (st' := [.int a1, .int a0]) (V' := V) rfl ?_
  by_cases hc1 : a0 < a1
  · rw [if_pos hc1] at h
    refine q_icmp rfl (fun _ => ?_) (fun c => absurd hc1 (of_decide_eq_false c))
    refine q_go 1 (pc' := 15) (ls' := [.int a0, .int a1, .int a2]) (st' := [.int (0 : Int32)]) (V' := V) rfl ?_
    obtain ⟨rfl, rfl⟩ := x_p2 h
    exact q_ret rfl rfl
  · rw [if_neg hc1] at h
    refine q_icmp rfl (fun c => absurd (of_decide_eq_true c) hc1) (fun _ => ?_)
    refine q_go 2 (pc' := 7) (ls' := [.int a0, .int a1, .int a2]) (st' := [.int a2, .int a0]) (V' := V) rfl ?_
    by_cases hc2 : a2 < a0
    · rw [if_pos hc2] at h
      refine q_icmp rfl (fun _ => ?_) (fun c => absurd hc2 (of_decide_eq_false c))
      refine q_go 1 (pc' := 15) (ls' := [.int a0, .int a1, .int a2]) (st' := [.int (0 : Int32)]) (V' := V) rfl ?_
      obtain ⟨rfl, rfl⟩ := x_p2 h
      exact q_ret rfl rfl
    · rw [if_neg hc2] at h
      refine q_icmp rfl (fun c => absurd (of_decide_eq_true c) hc2) (fun _ => ?_)
      refine q_go 2 (pc' := 15) (ls' := [.int a0, .int a1, .int a2]) (st' := [.int (1 : Int32)]) (V' := V) rfl ?_
      obtain ⟨rfl, rfl⟩ := x_p2 h
      exact q_ret rfl rfl
def f_X7_advances_L0 : Nat → (xV → Option (xV)) → xV → Option (xV)
  | 0, _, _ => none
  | n + 1, k, V => x_b2 (f_X7_letterAt (V 96 3) V) (fun x3 V2 => if x3 = (32 : Int32) then (f_X7_advances_L0 n k  (x_up V2 96 3 ((V2 96 3) + 1))) else (k  V2))
theorem f_X7_advances_L0_ok {k : xV → Option (xV)}  {W : xV} (hk : ∀ (V : xV) (g1 : Value), k  V = some W → x_Ex (1) kX7_advances 26 [.ref 96, g1] [] V none W) : ∀ (n : Nat) (V : xV) (g1 : Value), f_X7_advances_L0 n k  V = some W → x_Ex (1) kX7_advances 0 [.ref 96, g1] [] V none W := by
  intro n
  induction n with
  | zero => intro  V g1 h; cases h
  | succ n ih =>
    intro  V g1 h
    unfold f_X7_advances_L0 at h
    refine q_go 3 (pc' := 5) (ls' := [.ref 96, g1]) (st' := [.int (V 96 3), .ref 96]) (V' := V) rfl ?_
    obtain ⟨x3, V2, hc1, h⟩ := x_b2_eq h
    refine q_call (d := (0)) (as := [.ref 96, .int (V 96 3)]) (pc' := 8) (ls' := [.ref 96, g1]) (st' := []) (r1 := some x3) rfl rfl ((f_X7_letterAt_ok hc1).up (by decide)) ?_
    refine q_go 1 (pc' := 10) (ls' := [.ref 96, g1]) (st' := [.int (32 : Int32), .int x3]) (V' := V2) rfl ?_
    by_cases hc4 : x3 = (32 : Int32)
    · rw [if_pos hc4] at h
      refine q_icmp rfl (fun c => absurd hc4 (of_decide_eq_true c)) (fun _ => ?_)
      refine q_go 7 (pc' := 0) (ls' := [.ref 96, g1]) (st' := []) (V' := (x_up V2 96 3 ((V2 96 3) + 1))) rfl ?_
      exact ih  (x_up V2 96 3 ((V2 96 3) + 1)) g1 h
    · rw [if_neg hc4] at h
      refine q_icmp rfl (fun _ => ?_) (fun c => absurd hc4 (of_decide_eq_false c))
      exact hk  V2 g1 h
def f_X7_advances_L71 (l1 : Int32) : Nat → (xV → Option (xV)) → xV → Option (xV)
  | 0, _, _ => none
  | n + 1, k, V => x_b2 (f_X7_letterAt (V 96 3) V) (fun x23 V22 => x_b2 (f_X7_in x23 (48 : Int32) (57 : Int32) V22) (fun x26 V25 => if x26 = 0 then (k  V25) else (if (V25 96 6) ≤ (99 : Int32) then (x_b2 (f_X7_letterAt (V25 96 3) V25) (fun x31 V30 => f_X7_advances_L71 l1 n k  (x_up (x_up V30 96 6 ((((10 : Int32) * (V25 96 6)) + x31) - 48)) 96 3 ((V30 96 3) + 1)))) else (f_X7_advances_L71 l1 n k  (x_up (x_up V25 96 6 (V25 96 6)) 96 3 ((V25 96 3) + 1))))))
theorem f_X7_advances_L71_ok (l1 : Int32) {k : xV → Option (xV)}  {W : xV} (hk : ∀ (V : xV), k  V = some W → x_Ex (1) kX7_advances 141 [.ref 96, .int l1] [] V none W) : ∀ (n : Nat) (V : xV), f_X7_advances_L71 l1 n k  V = some W → x_Ex (1) kX7_advances 71 [.ref 96, .int l1] [] V none W := by
  intro n
  induction n with
  | zero => intro  V  h; cases h
  | succ n ih =>
    intro  V  h
    unfold f_X7_advances_L71 at h
    refine q_go 3 (pc' := 76) (ls' := [.ref 96, .int l1]) (st' := [.int (V 96 3), .ref 96]) (V' := V) rfl ?_
    obtain ⟨x23, V22, hc21, h⟩ := x_b2_eq h
    refine q_call (d := (0)) (as := [.ref 96, .int (V 96 3)]) (pc' := 79) (ls' := [.ref 96, .int l1]) (st' := []) (r1 := some x23) rfl rfl ((f_X7_letterAt_ok hc21).up (by decide)) ?_
    refine q_go 2 (pc' := 83) (ls' := [.ref 96, .int l1]) (st' := [.int (57 : Int32), .int (48 : Int32), .int x23]) (V' := V22) rfl ?_
    obtain ⟨x26, V25, hc24, h⟩ := x_b2_eq h
    refine q_call (d := (0)) (as := [.int x23, .int (48 : Int32), .int (57 : Int32)]) (pc' := 86) (ls' := [.ref 96, .int l1]) (st' := []) (r1 := some x26) rfl rfl ((f_X7_in_ok hc24).up (by decide)) ?_
    by_cases hc27 : x26 = 0
    · rw [if_pos hc27] at h
      refine q_if rfl (fun _ => ?_) (fun c => absurd hc27 (of_decide_eq_false c))
      exact hk  V25  h
    · rw [if_neg hc27] at h
      refine q_if rfl (fun c => absurd (of_decide_eq_true c) hc27) (fun _ => ?_)
      refine q_go 4 (pc' := 96) (ls' := [.ref 96, .int l1]) (st' := [.int (99 : Int32), .int (V25 96 6), .ref 96]) (V' := V25) rfl ?_
      by_cases hc28 : (V25 96 6) ≤ (99 : Int32)
      · rw [if_pos hc28] at h
        refine q_icmp rfl (fun _ => ?_) (fun c => absurd hc28 (of_decide_eq_false c))
        refine q_go 7 (pc' := 118) (ls' := [.ref 96, .int l1]) (st' := [.int (V25 96 3), .ref 96, .int ((10 : Int32) * (V25 96 6)), .ref 96]) (V' := V25) rfl ?_
        obtain ⟨x31, V30, hc29, h⟩ := x_b2_eq h
        refine q_call (d := (0)) (as := [.ref 96, .int (V25 96 3)]) (pc' := 121) (ls' := [.ref 96, .int l1]) (st' := [.int ((10 : Int32) * (V25 96 6)), .ref 96]) (r1 := some x31) rfl rfl ((f_X7_letterAt_ok hc29).up (by decide)) ?_
        refine q_go 11 (pc' := 71) (ls' := [.ref 96, .int l1]) (st' := []) (V' := (x_up (x_up V30 96 6 ((((10 : Int32) * (V25 96 6)) + x31) - 48)) 96 3 ((V30 96 3) + 1))) rfl ?_
        exact ih  (x_up (x_up V30 96 6 ((((10 : Int32) * (V25 96 6)) + x31) - 48)) 96 3 ((V30 96 3) + 1))  h
      · rw [if_neg hc28] at h
        refine q_icmp rfl (fun c => absurd (of_decide_eq_true c) hc28) (fun _ => ?_)
        refine q_go 11 (pc' := 71) (ls' := [.ref 96, .int l1]) (st' := []) (V' := (x_up (x_up V25 96 6 (V25 96 6)) 96 3 ((V25 96 3) + 1))) rfl ?_
        exact ih  (x_up (x_up V25 96 6 (V25 96 6)) 96 3 ((V25 96 3) + 1))  h
def f_X7_advances (V : xV) : Option (xV) := f_X7_advances_L0 300 (fun V5 => x_b2 (f_X7_letterAt (V5 96 3) (x_up V5 96 5 (V5 96 3))) (fun x9 V8 => if 0 ≤ x9 then (x_b2 (f_X7_in x9 (48 : Int32) (57 : Int32) V8) (fun x13 V12 => if x13 = 0 then (if x9 = (59 : Int32) then (some (x_up (x_up (x_up V12 96 3 ((V12 96 3) + 1)) 96 6 x9) 96 4 (3 : Int32))) else (if x9 = (99 : Int32) then (some (x_up (x_up (x_up V12 96 3 ((V12 96 3) + 1)) 96 6 x9) 96 4 (1 : Int32))) else (if x9 = (108 : Int32) then (some (x_up (x_up (x_up V12 96 3 ((V12 96 3) + 1)) 96 6 x9) 96 4 (1 : Int32))) else (if x9 = (116 : Int32) then (some (x_up (x_up (x_up V12 96 3 ((V12 96 3) + 1)) 96 6 x9) 96 4 (1 : Int32))) else (if x9 = (120 : Int32) then (some (x_up (x_up (x_up V12 96 3 ((V12 96 3) + 1)) 96 6 x9) 96 4 (1 : Int32))) else (if x9 = (97 : Int32) then (some (x_up (x_up (x_up V12 96 3 ((V12 96 3) + 1)) 96 6 x9) 96 4 (1 : Int32))) else (some (x_up (x_up (x_up V12 96 3 ((V12 96 3) + 1)) 96 6 x9) 96 4 (4 : Int32))))))))) else (f_X7_advances_L71 x9 300 (fun V32 => if (99 : Int32) < (V32 96 6) then (some (x_up V32 96 4 (4 : Int32))) else (if x9 = (48 : Int32) then (if ((V32 96 3) - (V32 96 5)) ≤ (1 : Int32) then (some (x_up V32 96 4 (2 : Int32))) else (some (x_up V32 96 4 (4 : Int32)))) else (some (x_up V32 96 4 (2 : Int32)))))  (x_up V12 96 6 (0 : Int32))))) else (some (x_up V8 96 4 (0 : Int32)))))  V
theorem f_X7_advances_ok {V W : xV}  (h : f_X7_advances V = some W) : x_Rn (1) 102 [.ref 96] V none W := by
  refine ⟨2, kX7_advances, rfl, ?_⟩
  show x_Ex (1) kX7_advances 0 [.ref 96, .long 0] [] V none W
  unfold f_X7_advances at h
  refine f_X7_advances_L0_ok (fun V5 g1_6 h => ?_) 300  V (.long 0) h
  refine q_go 7 (pc' := 39) (ls' := [.ref 96, g1_6]) (st' := [.int (V5 96 3), .ref 96]) (V' := (x_up V5 96 5 (V5 96 3))) rfl ?_
  obtain ⟨x9, V8, hc7, h⟩ := x_b2_eq h
  refine q_call (d := (0)) (as := [.ref 96, .int (V5 96 3)]) (pc' := 42) (ls' := [.ref 96, g1_6]) (st' := []) (r1 := some x9) rfl rfl ((f_X7_letterAt_ok hc7).up (by decide)) ?_
  refine q_go 2 (pc' := 44) (ls' := [.ref 96, .int x9]) (st' := [.int x9]) (V' := V8) rfl ?_
  by_cases hc10 : 0 ≤ x9
  · rw [if_pos hc10] at h
    refine q_if rfl (fun _ => ?_) (fun c => absurd hc10 (of_decide_eq_false c))
    refine q_go 3 (pc' := 60) (ls' := [.ref 96, .int x9]) (st' := [.int (57 : Int32), .int (48 : Int32), .int x9]) (V' := V8) rfl ?_
    obtain ⟨x13, V12, hc11, h⟩ := x_b2_eq h
    refine q_call (d := (0)) (as := [.int x9, .int (48 : Int32), .int (57 : Int32)]) (pc' := 63) (ls' := [.ref 96, .int x9]) (st' := []) (r1 := some x13) rfl rfl ((f_X7_in_ok hc11).up (by decide)) ?_
    by_cases hc14 : x13 = 0
    · rw [if_pos hc14] at h
      refine q_if rfl (fun _ => ?_) (fun c => absurd hc14 (of_decide_eq_false c))
      refine q_go 12 (pc' := 200) (ls' := [.ref 96, .int x9]) (st' := [.int (59 : Int32), .int x9, .ref 96]) (V' := (x_up (x_up V12 96 3 ((V12 96 3) + 1)) 96 6 x9)) rfl ?_
      by_cases hc15 : x9 = (59 : Int32)
      · rw [if_pos hc15] at h
        refine q_icmp rfl (fun c => absurd hc15 (of_decide_eq_true c)) (fun _ => ?_)
        refine q_go 3 (pc' := 245) (ls' := [.ref 96, .int x9]) (st' := []) (V' := (x_up (x_up (x_up V12 96 3 ((V12 96 3) + 1)) 96 6 x9) 96 4 (3 : Int32))) rfl ?_
        obtain rfl := Option.some.inj h
        exact q_ret rfl rfl
      · rw [if_neg hc15] at h
        refine q_icmp rfl (fun _ => ?_) (fun c => absurd hc15 (of_decide_eq_false c))
        refine q_go 2 (pc' := 210) (ls' := [.ref 96, .int x9]) (st' := [.int (99 : Int32), .int x9, .ref 96]) (V' := (x_up (x_up V12 96 3 ((V12 96 3) + 1)) 96 6 x9)) rfl ?_
        by_cases hc16 : x9 = (99 : Int32)
        · rw [if_pos hc16] at h
          refine q_icmp rfl (fun _ => ?_) (fun c => absurd hc16 (of_decide_eq_false c))
          refine q_go 3 (pc' := 245) (ls' := [.ref 96, .int x9]) (st' := []) (V' := (x_up (x_up (x_up V12 96 3 ((V12 96 3) + 1)) 96 6 x9) 96 4 (1 : Int32))) rfl ?_
          obtain rfl := Option.some.inj h
          exact q_ret rfl rfl
        · rw [if_neg hc16] at h
          refine q_icmp rfl (fun c => absurd (of_decide_eq_true c) hc16) (fun _ => ?_)
          refine q_go 2 (pc' := 216) (ls' := [.ref 96, .int x9]) (st' := [.int (108 : Int32), .int x9, .ref 96]) (V' := (x_up (x_up V12 96 3 ((V12 96 3) + 1)) 96 6 x9)) rfl ?_
          by_cases hc17 : x9 = (108 : Int32)
          · rw [if_pos hc17] at h
            refine q_icmp rfl (fun _ => ?_) (fun c => absurd hc17 (of_decide_eq_false c))
            refine q_go 3 (pc' := 245) (ls' := [.ref 96, .int x9]) (st' := []) (V' := (x_up (x_up (x_up V12 96 3 ((V12 96 3) + 1)) 96 6 x9) 96 4 (1 : Int32))) rfl ?_
            obtain rfl := Option.some.inj h
            exact q_ret rfl rfl
          · rw [if_neg hc17] at h
            refine q_icmp rfl (fun c => absurd (of_decide_eq_true c) hc17) (fun _ => ?_)
            refine q_go 2 (pc' := 222) (ls' := [.ref 96, .int x9]) (st' := [.int (116 : Int32), .int x9, .ref 96]) (V' := (x_up (x_up V12 96 3 ((V12 96 3) + 1)) 96 6 x9)) rfl ?_
            by_cases hc18 : x9 = (116 : Int32)
            · rw [if_pos hc18] at h
              refine q_icmp rfl (fun _ => ?_) (fun c => absurd hc18 (of_decide_eq_false c))
              refine q_go 3 (pc' := 245) (ls' := [.ref 96, .int x9]) (st' := []) (V' := (x_up (x_up (x_up V12 96 3 ((V12 96 3) + 1)) 96 6 x9) 96 4 (1 : Int32))) rfl ?_
              obtain rfl := Option.some.inj h
              exact q_ret rfl rfl
            · rw [if_neg hc18] at h
              refine q_icmp rfl (fun c => absurd (of_decide_eq_true c) hc18) (fun _ => ?_)
              refine q_go 2 (pc' := 228) (ls' := [.ref 96, .int x9]) (st' := [.int (120 : Int32), .int x9, .ref 96]) (V' := (x_up (x_up V12 96 3 ((V12 96 3) + 1)) 96 6 x9)) rfl ?_
              by_cases hc19 : x9 = (120 : Int32)
              · rw [if_pos hc19] at h
                refine q_icmp rfl (fun _ => ?_) (fun c => absurd hc19 (of_decide_eq_false c))
                refine q_go 3 (pc' := 245) (ls' := [.ref 96, .int x9]) (st' := []) (V' := (x_up (x_up (x_up V12 96 3 ((V12 96 3) + 1)) 96 6 x9) 96 4 (1 : Int32))) rfl ?_
                obtain rfl := Option.some.inj h
                exact q_ret rfl rfl
              · rw [if_neg hc19] at h
                refine q_icmp rfl (fun c => absurd (of_decide_eq_true c) hc19) (fun _ => ?_)
                refine q_go 2 (pc' := 234) (ls' := [.ref 96, .int x9]) (st' := [.int (97 : Int32), .int x9, .ref 96]) (V' := (x_up (x_up V12 96 3 ((V12 96 3) + 1)) 96 6 x9)) rfl ?_
                by_cases hc20 : x9 = (97 : Int32)
                · rw [if_pos hc20] at h
                  refine q_icmp rfl (fun c => absurd hc20 (of_decide_eq_true c)) (fun _ => ?_)
                  refine q_go 3 (pc' := 245) (ls' := [.ref 96, .int x9]) (st' := []) (V' := (x_up (x_up (x_up V12 96 3 ((V12 96 3) + 1)) 96 6 x9) 96 4 (1 : Int32))) rfl ?_
                  obtain rfl := Option.some.inj h
                  exact q_ret rfl rfl
                · rw [if_neg hc20] at h
                  refine q_icmp rfl (fun _ => ?_) (fun c => absurd hc20 (of_decide_eq_false c))
                  refine q_go 2 (pc' := 245) (ls' := [.ref 96, .int x9]) (st' := []) (V' := (x_up (x_up (x_up V12 96 3 ((V12 96 3) + 1)) 96 6 x9) 96 4 (4 : Int32))) rfl ?_
                  obtain rfl := Option.some.inj h
                  exact q_ret rfl rfl
    · rw [if_neg hc14] at h
      refine q_if rfl (fun c => absurd (of_decide_eq_true c) hc14) (fun _ => ?_)
      refine q_go 3 (pc' := 71) (ls' := [.ref 96, .int x9]) (st' := []) (V' := (x_up V12 96 6 (0 : Int32))) rfl ?_
      refine f_X7_advances_L71_ok x9 (fun V32 h => ?_) 300  (x_up V12 96 6 (0 : Int32))  h
      refine q_go 4 (pc' := 148) (ls' := [.ref 96, .int x9]) (st' := [.int (99 : Int32), .int (V32 96 6), .ref 96]) (V' := V32) rfl ?_
      by_cases hc33 : (99 : Int32) < (V32 96 6)
      · rw [if_pos hc33] at h
        refine q_icmp rfl (fun _ => ?_) (fun c => absurd hc33 (of_decide_eq_false c))
        refine q_go 4 (pc' := 245) (ls' := [.ref 96, .int x9]) (st' := []) (V' := (x_up V32 96 4 (4 : Int32))) rfl ?_
        obtain rfl := Option.some.inj h
        exact q_ret rfl rfl
      · rw [if_neg hc33] at h
        refine q_icmp rfl (fun c => absurd (of_decide_eq_true c) hc33) (fun _ => ?_)
        refine q_go 2 (pc' := 154) (ls' := [.ref 96, .int x9]) (st' := [.int (48 : Int32), .int x9, .ref 96]) (V' := V32) rfl ?_
        by_cases hc34 : x9 = (48 : Int32)
        · rw [if_pos hc34] at h
          refine q_icmp rfl (fun c => absurd hc34 (of_decide_eq_true c)) (fun _ => ?_)
          refine q_go 6 (pc' := 167) (ls' := [.ref 96, .int x9]) (st' := [.int (1 : Int32), .int ((V32 96 3) - (V32 96 5)), .ref 96]) (V' := V32) rfl ?_
          by_cases hc35 : ((V32 96 3) - (V32 96 5)) ≤ (1 : Int32)
          · rw [if_pos hc35] at h
            refine q_icmp rfl (fun _ => ?_) (fun c => absurd hc35 (of_decide_eq_false c))
            refine q_go 3 (pc' := 245) (ls' := [.ref 96, .int x9]) (st' := []) (V' := (x_up V32 96 4 (2 : Int32))) rfl ?_
            obtain rfl := Option.some.inj h
            exact q_ret rfl rfl
          · rw [if_neg hc35] at h
            refine q_icmp rfl (fun c => absurd (of_decide_eq_true c) hc35) (fun _ => ?_)
            refine q_go 4 (pc' := 245) (ls' := [.ref 96, .int x9]) (st' := []) (V' := (x_up V32 96 4 (4 : Int32))) rfl ?_
            obtain rfl := Option.some.inj h
            exact q_ret rfl rfl
        · rw [if_neg hc34] at h
          refine q_icmp rfl (fun _ => ?_) (fun c => absurd hc34 (of_decide_eq_false c))
          refine q_go 3 (pc' := 245) (ls' := [.ref 96, .int x9]) (st' := []) (V' := (x_up V32 96 4 (2 : Int32))) rfl ?_
          obtain rfl := Option.some.inj h
          exact q_ret rfl rfl
  · rw [if_neg hc10] at h
    refine q_if rfl (fun c => absurd (of_decide_eq_true c) hc10) (fun _ => ?_)
    refine q_go 4 (pc' := 245) (ls' := [.ref 96, .int x9]) (st' := []) (V' := (x_up V8 96 4 (0 : Int32))) rfl ?_
    obtain rfl := Option.some.inj h
    exact q_ret rfl rfl
def f_X7_isWell (V : xV) : Option (Int32 × xV) := if 0 ≤ (V 96 7) then (some ((0 : Int32), V)) else (some ((1 : Int32), V))
theorem f_X7_isWell_ok {V W : xV} {x : Int32} (h : f_X7_isWell V = some (x, W)) : x_Rn (0) 103 [.ref 96] V (some x) W := by
  refine ⟨1, kX7_isWell, rfl, ?_⟩
  show x_Ex (0) kX7_isWell 0 [.ref 96] [] V (some x) W
  unfold f_X7_isWell at h
  refine q_go 2 (pc' := 4) (ls' := [.ref 96]) (st' := [.int (V 96 7)]) (V' := V) rfl ?_
  by_cases hc1 : 0 ≤ (V 96 7)
  · rw [if_pos hc1] at h
    refine q_if rfl (fun _ => ?_) (fun c => absurd hc1 (of_decide_eq_false c))
    refine q_go 1 (pc' := 12) (ls' := [.ref 96]) (st' := [.int (0 : Int32)]) (V' := V) rfl ?_
    obtain ⟨rfl, rfl⟩ := x_p2 h
    exact q_ret rfl rfl
  · rw [if_neg hc1] at h
    refine q_if rfl (fun c => absurd (of_decide_eq_true c) hc1) (fun _ => ?_)
    refine q_go 2 (pc' := 12) (ls' := [.ref 96]) (st' := [.int (1 : Int32)]) (V' := V) rfl ?_
    obtain ⟨rfl, rfl⟩ := x_p2 h
    exact q_ret rfl rfl
def f_X7_takes (a0 : Int32) (V : xV) : Option (Int32 × xV) := x_b2 (f_X7_isWell V) (fun x3 V2 => if x3 = 0 then (some ((0 : Int32), V2)) else (if a0 = 0 then (some ((0 : Int32), (x_up V2 96 7 (V2 96 5)))) else (x_b1 (f_X7_advances V2) (fun V7 => some ((V2 96 6), V7)))))
theorem f_X7_takes_ok {a0 : Int32} {V W : xV} {x : Int32} (h : f_X7_takes a0 V = some (x, W)) : x_Rn (2) 104 [.ref 96, .int a0] V (some x) W := by
  refine ⟨3, kX7_takes, rfl, ?_⟩
  show x_Ex (2) kX7_takes 0 [.ref 96, .int a0, .long 0] [] V (some x) W
  unfold f_X7_takes at h
  refine q_go 1 (pc' := 1) (ls' := [.ref 96, .int a0, .long 0]) (st' := [.ref 96]) (V' := V) rfl ?_
  obtain ⟨x3, V2, hc1, h⟩ := x_b2_eq h
  refine q_call (d := (1)) (as := [.ref 96]) (pc' := 4) (ls' := [.ref 96, .int a0, .long 0]) (st' := []) (r1 := some x3) rfl rfl ((f_X7_isWell_ok hc1).up (by decide)) ?_
  by_cases hc4 : x3 = 0
  · rw [if_pos hc4] at h
    refine q_if rfl (fun c => absurd hc4 (of_decide_eq_true c)) (fun _ => ?_)
    refine q_go 1 (pc' := 8) (ls' := [.ref 96, .int a0, .long 0]) (st' := [.int (0 : Int32)]) (V' := V2) rfl ?_
    obtain ⟨rfl, rfl⟩ := x_p2 h
    exact q_ret rfl rfl
  · rw [if_neg hc4] at h
    refine q_if rfl (fun _ => ?_) (fun c => absurd hc4 (of_decide_eq_false c))
    refine q_go 1 (pc' := 10) (ls' := [.ref 96, .int a0, .long 0]) (st' := [.int a0]) (V' := V2) rfl ?_
    by_cases hc5 : a0 = 0
    · rw [if_pos hc5] at h
      refine q_if rfl (fun c => absurd hc5 (of_decide_eq_true c)) (fun _ => ?_)
      refine q_go 5 (pc' := 22) (ls' := [.ref 96, .int a0, .long 0]) (st' := [.int (0 : Int32)]) (V' := (x_up V2 96 7 (V2 96 5))) rfl ?_
      obtain ⟨rfl, rfl⟩ := x_p2 h
      exact q_ret rfl rfl
    · rw [if_neg hc5] at h
      refine q_if rfl (fun _ => ?_) (fun c => absurd hc5 (of_decide_eq_false c))
      refine q_go 4 (pc' := 29) (ls' := [.ref 96, .int a0, .int (V2 96 6)]) (st' := [.ref 96]) (V' := V2) rfl ?_
      obtain ⟨V7, hc6, h⟩ := x_b1_eq h
      refine q_call (d := (1)) (as := [.ref 96]) (pc' := 32) (ls' := [.ref 96, .int a0, .int (V2 96 6)]) (st' := []) (r1 := none) rfl rfl ((f_X7_advances_ok hc6).up (by decide)) ?_
      refine q_go 1 (pc' := 33) (ls' := [.ref 96, .int a0, .int (V2 96 6)]) (st' := [.int (V2 96 6)]) (V' := V7) rfl ?_
      obtain ⟨rfl, rfl⟩ := x_p2 h
      exact q_ret rfl rfl
def f_X7_number (a0 : Int32) (a1 : Int32) (V : xV) : Option (Int32 × xV) := if (V 96 4) = (2 : Int32) then (x_b2 (f_X7_in (V 96 6) a0 a1 V) (fun x7 V6 => if x7 = 0 then (x_b2 (f_X7_takes (0 : Int32) V6) (fun x11 V10 => some (x11, V10))) else (x_b2 (f_X7_takes (1 : Int32) V6) (fun x14 V13 => some (x14, V13))))) else (x_b2 (f_X7_takes (0 : Int32) V) (fun x4 V3 => some (x4, V3)))
theorem f_X7_number_ok {a0 : Int32} {a1 : Int32} {V W : xV} {x : Int32} (h : f_X7_number a0 a1 V = some (x, W)) : x_Rn (3) 105 [.ref 96, .int a0, .int a1] V (some x) W := by
  refine ⟨3, kX7_number, rfl, ?_⟩
  show x_Ex (3) kX7_number 0 [.ref 96, .int a0, .int a1] [] V (some x) W
  unfold f_X7_number at h
  refine q_go 4 (pc' := 6) (ls' := [.ref 96, .int a0, .int a1]) (st' := [.int (2 : Int32), .int (V 96 4), .ref 96]) (V' := V) rfl ?_
  by_cases hc1 : (V 96 4) = (2 : Int32)
  · rw [if_pos hc1] at h
    refine q_icmp rfl (fun c => absurd hc1 (of_decide_eq_true c)) (fun _ => ?_)
    refine q_go 4 (pc' := 15) (ls' := [.ref 96, .int a0, .int a1]) (st' := [.int a1, .int a0, .int (V 96 6), .ref 96]) (V' := V) rfl ?_
    obtain ⟨x7, V6, hc5, h⟩ := x_b2_eq h
    refine q_call (d := (2)) (as := [.int (V 96 6), .int a0, .int a1]) (pc' := 18) (ls' := [.ref 96, .int a0, .int a1]) (st' := [.ref 96]) (r1 := some x7) rfl rfl ((f_X7_in_ok hc5).up (by decide)) ?_
    by_cases hc8 : x7 = 0
    · rw [if_pos hc8] at h
      refine q_if rfl (fun _ => ?_) (fun c => absurd hc8 (of_decide_eq_false c))
      refine q_go 1 (pc' := 26) (ls' := [.ref 96, .int a0, .int a1]) (st' := [.int (0 : Int32), .ref 96]) (V' := V6) rfl ?_
      obtain ⟨x11, V10, hc9, h⟩ := x_b2_eq h
      refine q_call (d := (2)) (as := [.ref 96, .int (0 : Int32)]) (pc' := 29) (ls' := [.ref 96, .int a0, .int a1]) (st' := []) (r1 := some x11) rfl rfl ((f_X7_takes_ok hc9).up (by decide)) ?_
      obtain ⟨rfl, rfl⟩ := x_p2 h
      exact q_ret rfl rfl
    · rw [if_neg hc8] at h
      refine q_if rfl (fun c => absurd (of_decide_eq_true c) hc8) (fun _ => ?_)
      refine q_go 2 (pc' := 26) (ls' := [.ref 96, .int a0, .int a1]) (st' := [.int (1 : Int32), .ref 96]) (V' := V6) rfl ?_
      obtain ⟨x14, V13, hc12, h⟩ := x_b2_eq h
      refine q_call (d := (2)) (as := [.ref 96, .int (1 : Int32)]) (pc' := 29) (ls' := [.ref 96, .int a0, .int a1]) (st' := []) (r1 := some x14) rfl rfl ((f_X7_takes_ok hc12).up (by decide)) ?_
      obtain ⟨rfl, rfl⟩ := x_p2 h
      exact q_ret rfl rfl
  · rw [if_neg hc1] at h
    refine q_icmp rfl (fun _ => ?_) (fun c => absurd hc1 (of_decide_eq_false c))
    refine q_go 1 (pc' := 26) (ls' := [.ref 96, .int a0, .int a1]) (st' := [.int (0 : Int32), .ref 96]) (V' := V) rfl ?_
    obtain ⟨x4, V3, hc2, h⟩ := x_b2_eq h
    refine q_call (d := (2)) (as := [.ref 96, .int (0 : Int32)]) (pc' := 29) (ls' := [.ref 96, .int a0, .int a1]) (st' := []) (r1 := some x4) rfl rfl ((f_X7_takes_ok hc2).up (by decide)) ?_
    obtain ⟨rfl, rfl⟩ := x_p2 h
    exact q_ret rfl rfl
def f_X7_has (a0 : Int32) (a1 : Int32) (V : xV) : Option (Int32 × xV) := if ((a0 >>> (a1 &&& 31)) &&& 1) = (1 : Int32) then (some ((1 : Int32), V)) else (some ((0 : Int32), V))
theorem f_X7_has_ok {a0 : Int32} {a1 : Int32} {V W : xV} {x : Int32} (h : f_X7_has a0 a1 V = some (x, W)) : x_Rn (0) 98 [.int a0, .int a1] V (some x) W := by
  refine ⟨2, kX7_has, rfl, ?_⟩
  show x_Ex (0) kX7_has 0 [.int a0, .int a1] [] V (some x) W
  unfold f_X7_has at h
  refine q_go 6 (pc' := 6) (ls' := [.int a0, .int a1]) (st' := [.int (1 : Int32), .int ((a0 >>> (a1 &&& 31)) &&& 1)]) (V' := V) rfl ?_
  by_cases hc1 : ((a0 >>> (a1 &&& 31)) &&& 1) = (1 : Int32)
  · rw [if_pos hc1] at h
    refine q_icmp rfl (fun c => absurd hc1 (of_decide_eq_true c)) (fun _ => ?_)
    refine q_go 2 (pc' := 14) (ls' := [.int a0, .int a1]) (st' := [.int (1 : Int32)]) (V' := V) rfl ?_
    obtain ⟨rfl, rfl⟩ := x_p2 h
    exact q_ret rfl rfl
  · rw [if_neg hc1] at h
    refine q_icmp rfl (fun _ => ?_) (fun c => absurd hc1 (of_decide_eq_false c))
    refine q_go 1 (pc' := 14) (ls' := [.int a0, .int a1]) (st' := [.int (0 : Int32)]) (V' := V) rfl ?_
    obtain ⟨rfl, rfl⟩ := x_p2 h
    exact q_ret rfl rfl
def f_X7_readsLights_L10 : Nat → (xV → Option (xV)) → xV → Option (xV)
  | 0, _, _ => none
  | n + 1, k, V => x_b2 (f_X7_number (0 : Int32) (30 : Int32) V) (fun x3 V2 => if x_in (V 96 14) 4 = true then (x_b2 (f_X7_isWell (x_up (x_up V2 100 ((V 96 14).toNatClampNeg) x3) 96 14 ((V2 96 14) + 1))) (fun x7 V6 => if x7 = 0 then (k  V6) else (if (V6 96 4) = (2 : Int32) then (if (V6 96 14) < (4 : Int32) then (f_X7_readsLights_L10 n k  V6) else (k  V6)) else (k  V6)))) else none)
theorem f_X7_readsLights_L10_ok {k : xV → Option (xV)}  {W : xV} (hk : ∀ (V : xV), k  V = some W → x_Ex (4) kX7_readsLights 59 [.ref 96] [] V none W) : ∀ (n : Nat) (V : xV), f_X7_readsLights_L10 n k  V = some W → x_Ex (4) kX7_readsLights 10 [.ref 96] [] V none W := by
  intro n
  induction n with
  | zero => intro  V  h; cases h
  | succ n ih =>
    intro  V  h
    unfold f_X7_readsLights_L10 at h
    refine q_go 7 (pc' := 22) (ls' := [.ref 96]) (st' := [.int (30 : Int32), .int (0 : Int32), .ref 96, .int (V 96 14), .ref 100]) (V' := V) rfl ?_
    obtain ⟨x3, V2, hc1, h⟩ := x_b2_eq h
    refine q_call (d := (3)) (as := [.ref 96, .int (0 : Int32), .int (30 : Int32)]) (pc' := 25) (ls' := [.ref 96]) (st' := [.int (V 96 14), .ref 100]) (r1 := some x3) rfl rfl ((f_X7_number_ok hc1).up (by decide)) ?_
    refine x_em (p := x_in (V 96 14) 4 = true) (fun hz => by rw [if_neg hz] at h; cases h) (fun hc4 => ?_)
    rw [if_pos hc4] at h
    refine q_ast rfl rfl hc4 ?_
    refine q_go 7 (pc' := 37) (ls' := [.ref 96]) (st' := [.ref 96]) (V' := (x_up (x_up V2 100 ((V 96 14).toNatClampNeg) x3) 96 14 ((V2 96 14) + 1))) rfl ?_
    obtain ⟨x7, V6, hc5, h⟩ := x_b2_eq h
    refine q_call (d := (3)) (as := [.ref 96]) (pc' := 40) (ls' := [.ref 96]) (st' := []) (r1 := some x7) rfl rfl ((f_X7_isWell_ok hc5).up (by decide)) ?_
    by_cases hc8 : x7 = 0
    · rw [if_pos hc8] at h
      refine q_if rfl (fun _ => ?_) (fun c => absurd hc8 (of_decide_eq_false c))
      exact hk  V6  h
    · rw [if_neg hc8] at h
      refine q_if rfl (fun c => absurd (of_decide_eq_true c) hc8) (fun _ => ?_)
      refine q_go 3 (pc' := 48) (ls' := [.ref 96]) (st' := [.int (2 : Int32), .int (V6 96 4)]) (V' := V6) rfl ?_
      by_cases hc9 : (V6 96 4) = (2 : Int32)
      · rw [if_pos hc9] at h
        refine q_icmp rfl (fun c => absurd hc9 (of_decide_eq_true c)) (fun _ => ?_)
        refine q_go 3 (pc' := 56) (ls' := [.ref 96]) (st' := [.int (4 : Int32), .int (V6 96 14)]) (V' := V6) rfl ?_
        by_cases hc10 : (V6 96 14) < (4 : Int32)
        · rw [if_pos hc10] at h
          refine q_icmp rfl (fun _ => ?_) (fun c => absurd hc10 (of_decide_eq_false c))
          exact ih  V6  h
        · rw [if_neg hc10] at h
          refine q_icmp rfl (fun c => absurd (of_decide_eq_true c) hc10) (fun _ => ?_)
          exact hk  V6  h
      · rw [if_neg hc9] at h
        refine q_icmp rfl (fun _ => ?_) (fun c => absurd hc9 (of_decide_eq_false c))
        exact hk  V6  h
def f_X7_readsLights (V : xV) : Option (xV) := f_X7_readsLights_L10 300 (fun V11 => some V11)  (x_up (x_up V 96 17 (1 : Int32)) 96 14 (0 : Int32))
theorem f_X7_readsLights_ok {V W : xV}  (h : f_X7_readsLights V = some W) : x_Rn (4) 108 [.ref 96] V none W := by
  refine ⟨1, kX7_readsLights, rfl, ?_⟩
  show x_Ex (4) kX7_readsLights 0 [.ref 96] [] V none W
  unfold f_X7_readsLights at h
  refine q_go 6 (pc' := 10) (ls' := [.ref 96]) (st' := []) (V' := (x_up (x_up V 96 17 (1 : Int32)) 96 14 (0 : Int32))) rfl ?_
  refine f_X7_readsLights_L10_ok (fun V11 h => ?_) 300  (x_up (x_up V 96 17 (1 : Int32)) 96 14 (0 : Int32))  h
  obtain rfl := Option.some.inj h
  exact q_ret rfl rfl
def f_X7_readsItem (a0 : Int32) (V : xV) : Option (xV) := if a0 = (99 : Int32) then (x_b2 (f_X7_number (1 : Int32) (2 : Int32) V) (fun x81 V80 => some (x_up (x_up V80 96 15 x81) 96 16 (1 : Int32)))) else (if a0 = (108 : Int32) then (x_b1 (f_X7_readsLights V) (fun V78 => some V78)) else (if a0 = (116 : Int32) then (x_b2 (f_X7_number (0 : Int32) (99 : Int32) V) (fun x75 V74 => if x_in (V 96 13) 6 = true then (some (x_up (x_up V74 101 ((V 96 13).toNatClampNeg) x75) 96 13 ((V74 96 13) + 1))) else none)) else (if a0 = (120 : Int32) then (x_b2 (f_X7_number (0 : Int32) ((V 96 13) - 1) V) (fun x18 V17 => if (V17 96 4) = (2 : Int32) then (x_b2 (f_X7_in (V17 96 6) (0 : Int32) ((V17 96 13) - 1) V17) (fun x31 V30 => if x31 = 0 then (x_b2 (f_X7_takes (0 : Int32) V30) (fun x35 V34 => x_b2 (f_X7_isWell V34) (fun x38 V37 => if x38 = 0 then (some V37) else (if x_in ((20 : Int32) + x18) 27 = true then (if x_in ((20 : Int32) + x35) 27 = true then (some (x_up (x_up V37 102 (((20 : Int32) + x18).toNatClampNeg) ((V37 102 (((20 : Int32) + x18).toNatClampNeg)) ||| ((1 : Int32) <<< (x35 &&& 31)))) 102 (((20 : Int32) + x35).toNatClampNeg) (((x_up V37 102 (((20 : Int32) + x18).toNatClampNeg) ((V37 102 (((20 : Int32) + x18).toNatClampNeg)) ||| ((1 : Int32) <<< (x35 &&& 31)))) 102 (((20 : Int32) + x35).toNatClampNeg)) ||| ((1 : Int32) <<< (x18 &&& 31))))) else none) else none)))) else (if (V30 96 6) = x18 then (x_b2 (f_X7_takes (0 : Int32) V30) (fun x45 V44 => x_b2 (f_X7_isWell V44) (fun x48 V47 => if x48 = 0 then (some V47) else (if x_in ((20 : Int32) + x18) 27 = true then (if x_in ((20 : Int32) + x45) 27 = true then (some (x_up (x_up V47 102 (((20 : Int32) + x18).toNatClampNeg) ((V47 102 (((20 : Int32) + x18).toNatClampNeg)) ||| ((1 : Int32) <<< (x45 &&& 31)))) 102 (((20 : Int32) + x45).toNatClampNeg) (((x_up V47 102 (((20 : Int32) + x18).toNatClampNeg) ((V47 102 (((20 : Int32) + x18).toNatClampNeg)) ||| ((1 : Int32) <<< (x45 &&& 31)))) 102 (((20 : Int32) + x45).toNatClampNeg)) ||| ((1 : Int32) <<< (x18 &&& 31))))) else none) else none)))) else (if x_in ((20 : Int32) + x18) 27 = true then (x_b2 (f_X7_has (V30 102 (((20 : Int32) + x18).toNatClampNeg)) (V30 96 6) V30) (fun x55 V54 => if x55 = 0 then (x_b2 (f_X7_takes (1 : Int32) V54) (fun x67 V66 => x_b2 (f_X7_isWell V66) (fun x70 V69 => if x70 = 0 then (some V69) else (if x_in ((20 : Int32) + x67) 27 = true then (some (x_up (x_up V69 102 (((20 : Int32) + x18).toNatClampNeg) ((V69 102 (((20 : Int32) + x18).toNatClampNeg)) ||| ((1 : Int32) <<< (x67 &&& 31)))) 102 (((20 : Int32) + x67).toNatClampNeg) (((x_up V69 102 (((20 : Int32) + x18).toNatClampNeg) ((V69 102 (((20 : Int32) + x18).toNatClampNeg)) ||| ((1 : Int32) <<< (x67 &&& 31)))) 102 (((20 : Int32) + x67).toNatClampNeg)) ||| ((1 : Int32) <<< (x18 &&& 31))))) else none)))) else (x_b2 (f_X7_takes (0 : Int32) V54) (fun x59 V58 => x_b2 (f_X7_isWell V58) (fun x62 V61 => if x62 = 0 then (some V61) else (if x_in ((20 : Int32) + x59) 27 = true then (some (x_up (x_up V61 102 (((20 : Int32) + x18).toNatClampNeg) ((V61 102 (((20 : Int32) + x18).toNatClampNeg)) ||| ((1 : Int32) <<< (x59 &&& 31)))) 102 (((20 : Int32) + x59).toNatClampNeg) (((x_up V61 102 (((20 : Int32) + x18).toNatClampNeg) ((V61 102 (((20 : Int32) + x18).toNatClampNeg)) ||| ((1 : Int32) <<< (x59 &&& 31)))) 102 (((20 : Int32) + x59).toNatClampNeg)) ||| ((1 : Int32) <<< (x18 &&& 31))))) else none)))))) else none)))) else (x_b2 (f_X7_takes (0 : Int32) V17) (fun x22 V21 => x_b2 (f_X7_isWell V21) (fun x25 V24 => if x25 = 0 then (some V24) else (if x_in ((20 : Int32) + x18) 27 = true then (if x_in ((20 : Int32) + x22) 27 = true then (some (x_up (x_up V24 102 (((20 : Int32) + x18).toNatClampNeg) ((V24 102 (((20 : Int32) + x18).toNatClampNeg)) ||| ((1 : Int32) <<< (x22 &&& 31)))) 102 (((20 : Int32) + x22).toNatClampNeg) (((x_up V24 102 (((20 : Int32) + x18).toNatClampNeg) ((V24 102 (((20 : Int32) + x18).toNatClampNeg)) ||| ((1 : Int32) <<< (x22 &&& 31)))) 102 (((20 : Int32) + x22).toNatClampNeg)) ||| ((1 : Int32) <<< (x18 &&& 31))))) else none) else none)))))) else (x_b2 (f_X7_number (0 : Int32) ((V 96 13) - 1) V) (fun x7 V6 => x_b2 (f_X7_number (0 : Int32) ((V6 96 14) - 1) V6) (fun x10 V9 => x_b2 (f_X7_number x10 ((V9 96 14) - 1) V9) (fun x13 V12 => if x_in ((8 : Int32) + x7) 27 = true then (if x_in ((14 : Int32) + x7) 27 = true then (some (x_up (x_up V12 102 (((8 : Int32) + x7).toNatClampNeg) x10) 102 (((14 : Int32) + x7).toNatClampNeg) x13)) else none) else none)))))))
theorem f_X7_readsItem_ok {a0 : Int32} {V W : xV}  (h : f_X7_readsItem a0 V = some W) : x_Rn (5) 109 [.ref 96, .int a0] V none W := by
  refine ⟨5, kX7_readsItem, rfl, ?_⟩
  show x_Ex (5) kX7_readsItem 0 [.ref 96, .int a0, .long 0, .long 0, .long 0] [] V none W
  unfold f_X7_readsItem at h
  refine q_go 2 (pc' := 3) (ls' := [.ref 96, .int a0, .long 0, .long 0, .long 0]) (st' := [.int (99 : Int32), .int a0]) (V' := V) rfl ?_
  by_cases hc1 : a0 = (99 : Int32)
  · rw [if_pos hc1] at h
    refine q_icmp rfl (fun c => absurd hc1 (of_decide_eq_true c)) (fun _ => ?_)
    refine q_go 4 (pc' := 10) (ls' := [.ref 96, .int a0, .long 0, .long 0, .long 0]) (st' := [.int (2 : Int32), .int (1 : Int32), .ref 96, .ref 96]) (V' := V) rfl ?_
    obtain ⟨x81, V80, hc79, h⟩ := x_b2_eq h
    refine q_call (d := (4)) (as := [.ref 96, .int (1 : Int32), .int (2 : Int32)]) (pc' := 13) (ls' := [.ref 96, .int a0, .long 0, .long 0, .long 0]) (st' := [.ref 96]) (r1 := some x81) rfl rfl ((f_X7_number_ok hc79).up (by decide)) ?_
    refine q_go 5 (pc' := 250) (ls' := [.ref 96, .int a0, .long 0, .long 0, .long 0]) (st' := []) (V' := (x_up (x_up V80 96 15 x81) 96 16 (1 : Int32))) rfl ?_
    obtain rfl := Option.some.inj h
    exact q_ret rfl rfl
  · rw [if_neg hc1] at h
    refine q_icmp rfl (fun _ => ?_) (fun c => absurd hc1 (of_decide_eq_false c))
    refine q_go 2 (pc' := 27) (ls' := [.ref 96, .int a0, .long 0, .long 0, .long 0]) (st' := [.int (108 : Int32), .int a0]) (V' := V) rfl ?_
    by_cases hc2 : a0 = (108 : Int32)
    · rw [if_pos hc2] at h
      refine q_icmp rfl (fun c => absurd hc2 (of_decide_eq_true c)) (fun _ => ?_)
      refine q_go 1 (pc' := 31) (ls' := [.ref 96, .int a0, .long 0, .long 0, .long 0]) (st' := [.ref 96]) (V' := V) rfl ?_
      obtain ⟨V78, hc77, h⟩ := x_b1_eq h
      refine q_call (d := (4)) (as := [.ref 96]) (pc' := 34) (ls' := [.ref 96, .int a0, .long 0, .long 0, .long 0]) (st' := []) (r1 := none) rfl rfl ((f_X7_readsLights_ok hc77).up (by decide)) ?_
      refine q_go 1 (pc' := 250) (ls' := [.ref 96, .int a0, .long 0, .long 0, .long 0]) (st' := []) (V' := V78) rfl ?_
      obtain rfl := Option.some.inj h
      exact q_ret rfl rfl
    · rw [if_neg hc2] at h
      refine q_icmp rfl (fun _ => ?_) (fun c => absurd hc2 (of_decide_eq_false c))
      refine q_go 2 (pc' := 40) (ls' := [.ref 96, .int a0, .long 0, .long 0, .long 0]) (st' := [.int (116 : Int32), .int a0]) (V' := V) rfl ?_
      by_cases hc3 : a0 = (116 : Int32)
      · rw [if_pos hc3] at h
        refine q_icmp rfl (fun c => absurd hc3 (of_decide_eq_true c)) (fun _ => ?_)
        refine q_go 7 (pc' := 55) (ls' := [.ref 96, .int a0, .long 0, .long 0, .long 0]) (st' := [.int (99 : Int32), .int (0 : Int32), .ref 96, .int (V 96 13), .ref 101]) (V' := V) rfl ?_
        obtain ⟨x75, V74, hc73, h⟩ := x_b2_eq h
        refine q_call (d := (4)) (as := [.ref 96, .int (0 : Int32), .int (99 : Int32)]) (pc' := 58) (ls' := [.ref 96, .int a0, .long 0, .long 0, .long 0]) (st' := [.int (V 96 13), .ref 101]) (r1 := some x75) rfl rfl ((f_X7_number_ok hc73).up (by decide)) ?_
        refine x_em (p := x_in (V 96 13) 6 = true) (fun hz => by rw [if_neg hz] at h; cases h) (fun hc76 => ?_)
        rw [if_pos hc76] at h
        refine q_ast rfl rfl hc76 ?_
        refine q_go 7 (pc' := 250) (ls' := [.ref 96, .int a0, .long 0, .long 0, .long 0]) (st' := []) (V' := (x_up (x_up V74 101 ((V 96 13).toNatClampNeg) x75) 96 13 ((V74 96 13) + 1))) rfl ?_
        obtain rfl := Option.some.inj h
        exact q_ret rfl rfl
      · rw [if_neg hc3] at h
        refine q_icmp rfl (fun _ => ?_) (fun c => absurd hc3 (of_decide_eq_false c))
        refine q_go 2 (pc' := 75) (ls' := [.ref 96, .int a0, .long 0, .long 0, .long 0]) (st' := [.int (120 : Int32), .int a0]) (V' := V) rfl ?_
        by_cases hc4 : a0 = (120 : Int32)
        · rw [if_pos hc4] at h
          refine q_icmp rfl (fun c => absurd hc4 (of_decide_eq_true c)) (fun _ => ?_)
          refine q_go 6 (pc' := 86) (ls' := [.ref 96, .int a0, .long 0, .long 0, .long 0]) (st' := [.int ((V 96 13) - 1), .int (0 : Int32), .ref 96]) (V' := V) rfl ?_
          obtain ⟨x18, V17, hc16, h⟩ := x_b2_eq h
          refine q_call (d := (4)) (as := [.ref 96, .int (0 : Int32), .int ((V 96 13) - 1)]) (pc' := 89) (ls' := [.ref 96, .int a0, .long 0, .long 0, .long 0]) (st' := []) (r1 := some x18) rfl rfl ((f_X7_number_ok hc16).up (by decide)) ?_
          refine q_go 5 (pc' := 96) (ls' := [.ref 96, .int a0, .int x18, .long 0, .long 0]) (st' := [.int (2 : Int32), .int (V17 96 4), .ref 96]) (V' := V17) rfl ?_
          by_cases hc19 : (V17 96 4) = (2 : Int32)
          · rw [if_pos hc19] at h
            refine q_icmp rfl (fun c => absurd hc19 (of_decide_eq_true c)) (fun _ => ?_)
            refine q_go 7 (pc' := 110) (ls' := [.ref 96, .int a0, .int x18, .long 0, .long 0]) (st' := [.int ((V17 96 13) - 1), .int (0 : Int32), .int (V17 96 6), .ref 96]) (V' := V17) rfl ?_
            obtain ⟨x31, V30, hc29, h⟩ := x_b2_eq h
            refine q_call (d := (4)) (as := [.int (V17 96 6), .int (0 : Int32), .int ((V17 96 13) - 1)]) (pc' := 113) (ls' := [.ref 96, .int a0, .int x18, .long 0, .long 0]) (st' := [.ref 96]) (r1 := some x31) rfl rfl ((f_X7_in_ok hc29).up (by decide)) ?_
            by_cases hc32 : x31 = 0
            · rw [if_pos hc32] at h
              refine q_if rfl (fun _ => ?_) (fun c => absurd hc32 (of_decide_eq_false c))
              refine q_go 1 (pc' := 148) (ls' := [.ref 96, .int a0, .int x18, .long 0, .long 0]) (st' := [.int (0 : Int32), .ref 96]) (V' := V30) rfl ?_
              obtain ⟨x35, V34, hc33, h⟩ := x_b2_eq h
              refine q_call (d := (4)) (as := [.ref 96, .int (0 : Int32)]) (pc' := 151) (ls' := [.ref 96, .int a0, .int x18, .long 0, .long 0]) (st' := []) (r1 := some x35) rfl rfl ((f_X7_takes_ok hc33).up (by decide)) ?_
              refine q_go 2 (pc' := 153) (ls' := [.ref 96, .int a0, .int x18, .int x35, .long 0]) (st' := [.ref 96]) (V' := V34) rfl ?_
              obtain ⟨x38, V37, hc36, h⟩ := x_b2_eq h
              refine q_call (d := (4)) (as := [.ref 96]) (pc' := 156) (ls' := [.ref 96, .int a0, .int x18, .int x35, .long 0]) (st' := []) (r1 := some x38) rfl rfl ((f_X7_isWell_ok hc36).up (by decide)) ?_
              by_cases hc39 : x38 = 0
              · rw [if_pos hc39] at h
                refine q_if rfl (fun _ => ?_) (fun c => absurd hc39 (of_decide_eq_false c))
                refine q_go 1 (pc' := 250) (ls' := [.ref 96, .int a0, .int x18, .int x35, .long 0]) (st' := []) (V' := V37) rfl ?_
                obtain rfl := Option.some.inj h
                exact q_ret rfl rfl
              · rw [if_neg hc39] at h
                refine q_if rfl (fun c => absurd (of_decide_eq_true c) hc39) (fun _ => ?_)
                refine q_go 6 (pc' := 168) (ls' := [.ref 96, .int a0, .int x18, .int x35, .long 0]) (st' := [.int ((20 : Int32) + x18), .ref 102, .int ((20 : Int32) + x18), .ref 102]) (V' := V37) rfl ?_
                refine x_em (p := x_in ((20 : Int32) + x18) 27 = true) (fun hz => by rw [if_neg hz] at h; cases h) (fun hc40 => ?_)
                rw [if_pos hc40] at h
                refine q_ald (Or.inl ⟨rfl, rfl⟩) rfl hc40 ?_
                refine q_go 4 (pc' := 173) (ls' := [.ref 96, .int a0, .int x18, .int x35, .long 0]) (st' := [.int ((V37 102 (((20 : Int32) + x18).toNatClampNeg)) ||| ((1 : Int32) <<< (x35 &&& 31))), .int ((20 : Int32) + x18), .ref 102]) (V' := V37) rfl ?_
                refine q_ast rfl rfl hc40 ?_
                refine q_go 6 (pc' := 183) (ls' := [.ref 96, .int a0, .int x18, .int x35, .long 0]) (st' := [.int ((20 : Int32) + x35), .ref 102, .int ((20 : Int32) + x35), .ref 102]) (V' := (x_up V37 102 (((20 : Int32) + x18).toNatClampNeg) ((V37 102 (((20 : Int32) + x18).toNatClampNeg)) ||| ((1 : Int32) <<< (x35 &&& 31))))) rfl ?_
                refine x_em (p := x_in ((20 : Int32) + x35) 27 = true) (fun hz => by rw [if_neg hz] at h; cases h) (fun hc41 => ?_)
                rw [if_pos hc41] at h
                refine q_ald (Or.inl ⟨rfl, rfl⟩) rfl hc41 ?_
                refine q_go 4 (pc' := 188) (ls' := [.ref 96, .int a0, .int x18, .int x35, .long 0]) (st' := [.int (((x_up V37 102 (((20 : Int32) + x18).toNatClampNeg) ((V37 102 (((20 : Int32) + x18).toNatClampNeg)) ||| ((1 : Int32) <<< (x35 &&& 31)))) 102 (((20 : Int32) + x35).toNatClampNeg)) ||| ((1 : Int32) <<< (x18 &&& 31))), .int ((20 : Int32) + x35), .ref 102]) (V' := (x_up V37 102 (((20 : Int32) + x18).toNatClampNeg) ((V37 102 (((20 : Int32) + x18).toNatClampNeg)) ||| ((1 : Int32) <<< (x35 &&& 31))))) rfl ?_
                refine q_ast rfl rfl hc41 ?_
                refine q_go 1 (pc' := 250) (ls' := [.ref 96, .int a0, .int x18, .int x35, .long 0]) (st' := []) (V' := (x_up (x_up V37 102 (((20 : Int32) + x18).toNatClampNeg) ((V37 102 (((20 : Int32) + x18).toNatClampNeg)) ||| ((1 : Int32) <<< (x35 &&& 31)))) 102 (((20 : Int32) + x35).toNatClampNeg) (((x_up V37 102 (((20 : Int32) + x18).toNatClampNeg) ((V37 102 (((20 : Int32) + x18).toNatClampNeg)) ||| ((1 : Int32) <<< (x35 &&& 31)))) 102 (((20 : Int32) + x35).toNatClampNeg)) ||| ((1 : Int32) <<< (x18 &&& 31))))) rfl ?_
                obtain rfl := Option.some.inj h
                exact q_ret rfl rfl
            · rw [if_neg hc32] at h
              refine q_if rfl (fun c => absurd (of_decide_eq_true c) hc32) (fun _ => ?_)
              refine q_go 3 (pc' := 121) (ls' := [.ref 96, .int a0, .int x18, .long 0, .long 0]) (st' := [.int x18, .int (V30 96 6), .ref 96]) (V' := V30) rfl ?_
              by_cases hc42 : (V30 96 6) = x18
              · rw [if_pos hc42] at h
                refine q_icmp rfl (fun _ => ?_) (fun c => absurd hc42 (of_decide_eq_false c))
                refine q_go 1 (pc' := 148) (ls' := [.ref 96, .int a0, .int x18, .long 0, .long 0]) (st' := [.int (0 : Int32), .ref 96]) (V' := V30) rfl ?_
                obtain ⟨x45, V44, hc43, h⟩ := x_b2_eq h
                refine q_call (d := (4)) (as := [.ref 96, .int (0 : Int32)]) (pc' := 151) (ls' := [.ref 96, .int a0, .int x18, .long 0, .long 0]) (st' := []) (r1 := some x45) rfl rfl ((f_X7_takes_ok hc43).up (by decide)) ?_
                refine q_go 2 (pc' := 153) (ls' := [.ref 96, .int a0, .int x18, .int x45, .long 0]) (st' := [.ref 96]) (V' := V44) rfl ?_
                obtain ⟨x48, V47, hc46, h⟩ := x_b2_eq h
                refine q_call (d := (4)) (as := [.ref 96]) (pc' := 156) (ls' := [.ref 96, .int a0, .int x18, .int x45, .long 0]) (st' := []) (r1 := some x48) rfl rfl ((f_X7_isWell_ok hc46).up (by decide)) ?_
                by_cases hc49 : x48 = 0
                · rw [if_pos hc49] at h
                  refine q_if rfl (fun _ => ?_) (fun c => absurd hc49 (of_decide_eq_false c))
                  refine q_go 1 (pc' := 250) (ls' := [.ref 96, .int a0, .int x18, .int x45, .long 0]) (st' := []) (V' := V47) rfl ?_
                  obtain rfl := Option.some.inj h
                  exact q_ret rfl rfl
                · rw [if_neg hc49] at h
                  refine q_if rfl (fun c => absurd (of_decide_eq_true c) hc49) (fun _ => ?_)
                  refine q_go 6 (pc' := 168) (ls' := [.ref 96, .int a0, .int x18, .int x45, .long 0]) (st' := [.int ((20 : Int32) + x18), .ref 102, .int ((20 : Int32) + x18), .ref 102]) (V' := V47) rfl ?_
                  refine x_em (p := x_in ((20 : Int32) + x18) 27 = true) (fun hz => by rw [if_neg hz] at h; cases h) (fun hc50 => ?_)
                  rw [if_pos hc50] at h
                  refine q_ald (Or.inl ⟨rfl, rfl⟩) rfl hc50 ?_
                  refine q_go 4 (pc' := 173) (ls' := [.ref 96, .int a0, .int x18, .int x45, .long 0]) (st' := [.int ((V47 102 (((20 : Int32) + x18).toNatClampNeg)) ||| ((1 : Int32) <<< (x45 &&& 31))), .int ((20 : Int32) + x18), .ref 102]) (V' := V47) rfl ?_
                  refine q_ast rfl rfl hc50 ?_
                  refine q_go 6 (pc' := 183) (ls' := [.ref 96, .int a0, .int x18, .int x45, .long 0]) (st' := [.int ((20 : Int32) + x45), .ref 102, .int ((20 : Int32) + x45), .ref 102]) (V' := (x_up V47 102 (((20 : Int32) + x18).toNatClampNeg) ((V47 102 (((20 : Int32) + x18).toNatClampNeg)) ||| ((1 : Int32) <<< (x45 &&& 31))))) rfl ?_
                  refine x_em (p := x_in ((20 : Int32) + x45) 27 = true) (fun hz => by rw [if_neg hz] at h; cases h) (fun hc51 => ?_)
                  rw [if_pos hc51] at h
                  refine q_ald (Or.inl ⟨rfl, rfl⟩) rfl hc51 ?_
                  refine q_go 4 (pc' := 188) (ls' := [.ref 96, .int a0, .int x18, .int x45, .long 0]) (st' := [.int (((x_up V47 102 (((20 : Int32) + x18).toNatClampNeg) ((V47 102 (((20 : Int32) + x18).toNatClampNeg)) ||| ((1 : Int32) <<< (x45 &&& 31)))) 102 (((20 : Int32) + x45).toNatClampNeg)) ||| ((1 : Int32) <<< (x18 &&& 31))), .int ((20 : Int32) + x45), .ref 102]) (V' := (x_up V47 102 (((20 : Int32) + x18).toNatClampNeg) ((V47 102 (((20 : Int32) + x18).toNatClampNeg)) ||| ((1 : Int32) <<< (x45 &&& 31))))) rfl ?_
                  refine q_ast rfl rfl hc51 ?_
                  refine q_go 1 (pc' := 250) (ls' := [.ref 96, .int a0, .int x18, .int x45, .long 0]) (st' := []) (V' := (x_up (x_up V47 102 (((20 : Int32) + x18).toNatClampNeg) ((V47 102 (((20 : Int32) + x18).toNatClampNeg)) ||| ((1 : Int32) <<< (x45 &&& 31)))) 102 (((20 : Int32) + x45).toNatClampNeg) (((x_up V47 102 (((20 : Int32) + x18).toNatClampNeg) ((V47 102 (((20 : Int32) + x18).toNatClampNeg)) ||| ((1 : Int32) <<< (x45 &&& 31)))) 102 (((20 : Int32) + x45).toNatClampNeg)) ||| ((1 : Int32) <<< (x18 &&& 31))))) rfl ?_
                  obtain rfl := Option.some.inj h
                  exact q_ret rfl rfl
              · rw [if_neg hc42] at h
                refine q_icmp rfl (fun c => absurd (of_decide_eq_true c) hc42) (fun _ => ?_)
                refine q_go 5 (pc' := 132) (ls' := [.ref 96, .int a0, .int x18, .long 0, .long 0]) (st' := [.int ((20 : Int32) + x18), .ref 102, .ref 96]) (V' := V30) rfl ?_
                refine x_em (p := x_in ((20 : Int32) + x18) 27 = true) (fun hz => by rw [if_neg hz] at h; cases h) (fun hc52 => ?_)
                rw [if_pos hc52] at h
                refine q_ald (Or.inl ⟨rfl, rfl⟩) rfl hc52 ?_
                refine q_go 2 (pc' := 137) (ls' := [.ref 96, .int a0, .int x18, .long 0, .long 0]) (st' := [.int (V30 96 6), .int (V30 102 (((20 : Int32) + x18).toNatClampNeg)), .ref 96]) (V' := V30) rfl ?_
                obtain ⟨x55, V54, hc53, h⟩ := x_b2_eq h
                refine q_call (d := (4)) (as := [.int (V30 102 (((20 : Int32) + x18).toNatClampNeg)), .int (V30 96 6)]) (pc' := 140) (ls' := [.ref 96, .int a0, .int x18, .long 0, .long 0]) (st' := [.ref 96]) (r1 := some x55) rfl rfl ((f_X7_has_ok hc53).up (by decide)) ?_
                by_cases hc56 : x55 = 0
                · rw [if_pos hc56] at h
                  refine q_if rfl (fun c => absurd hc56 (of_decide_eq_true c)) (fun _ => ?_)
                  refine q_go 2 (pc' := 148) (ls' := [.ref 96, .int a0, .int x18, .long 0, .long 0]) (st' := [.int (1 : Int32), .ref 96]) (V' := V54) rfl ?_
                  obtain ⟨x67, V66, hc65, h⟩ := x_b2_eq h
                  refine q_call (d := (4)) (as := [.ref 96, .int (1 : Int32)]) (pc' := 151) (ls' := [.ref 96, .int a0, .int x18, .long 0, .long 0]) (st' := []) (r1 := some x67) rfl rfl ((f_X7_takes_ok hc65).up (by decide)) ?_
                  refine q_go 2 (pc' := 153) (ls' := [.ref 96, .int a0, .int x18, .int x67, .long 0]) (st' := [.ref 96]) (V' := V66) rfl ?_
                  obtain ⟨x70, V69, hc68, h⟩ := x_b2_eq h
                  refine q_call (d := (4)) (as := [.ref 96]) (pc' := 156) (ls' := [.ref 96, .int a0, .int x18, .int x67, .long 0]) (st' := []) (r1 := some x70) rfl rfl ((f_X7_isWell_ok hc68).up (by decide)) ?_
                  by_cases hc71 : x70 = 0
                  · rw [if_pos hc71] at h
                    refine q_if rfl (fun _ => ?_) (fun c => absurd hc71 (of_decide_eq_false c))
                    refine q_go 1 (pc' := 250) (ls' := [.ref 96, .int a0, .int x18, .int x67, .long 0]) (st' := []) (V' := V69) rfl ?_
                    obtain rfl := Option.some.inj h
                    exact q_ret rfl rfl
                  · rw [if_neg hc71] at h
                    refine q_if rfl (fun c => absurd (of_decide_eq_true c) hc71) (fun _ => ?_)
                    refine q_go 6 (pc' := 168) (ls' := [.ref 96, .int a0, .int x18, .int x67, .long 0]) (st' := [.int ((20 : Int32) + x18), .ref 102, .int ((20 : Int32) + x18), .ref 102]) (V' := V69) rfl ?_
                    refine q_ald (Or.inl ⟨rfl, rfl⟩) rfl hc52 ?_
                    refine q_go 4 (pc' := 173) (ls' := [.ref 96, .int a0, .int x18, .int x67, .long 0]) (st' := [.int ((V69 102 (((20 : Int32) + x18).toNatClampNeg)) ||| ((1 : Int32) <<< (x67 &&& 31))), .int ((20 : Int32) + x18), .ref 102]) (V' := V69) rfl ?_
                    refine q_ast rfl rfl hc52 ?_
                    refine q_go 6 (pc' := 183) (ls' := [.ref 96, .int a0, .int x18, .int x67, .long 0]) (st' := [.int ((20 : Int32) + x67), .ref 102, .int ((20 : Int32) + x67), .ref 102]) (V' := (x_up V69 102 (((20 : Int32) + x18).toNatClampNeg) ((V69 102 (((20 : Int32) + x18).toNatClampNeg)) ||| ((1 : Int32) <<< (x67 &&& 31))))) rfl ?_
                    refine x_em (p := x_in ((20 : Int32) + x67) 27 = true) (fun hz => by rw [if_neg hz] at h; cases h) (fun hc72 => ?_)
                    rw [if_pos hc72] at h
                    refine q_ald (Or.inl ⟨rfl, rfl⟩) rfl hc72 ?_
                    refine q_go 4 (pc' := 188) (ls' := [.ref 96, .int a0, .int x18, .int x67, .long 0]) (st' := [.int (((x_up V69 102 (((20 : Int32) + x18).toNatClampNeg) ((V69 102 (((20 : Int32) + x18).toNatClampNeg)) ||| ((1 : Int32) <<< (x67 &&& 31)))) 102 (((20 : Int32) + x67).toNatClampNeg)) ||| ((1 : Int32) <<< (x18 &&& 31))), .int ((20 : Int32) + x67), .ref 102]) (V' := (x_up V69 102 (((20 : Int32) + x18).toNatClampNeg) ((V69 102 (((20 : Int32) + x18).toNatClampNeg)) ||| ((1 : Int32) <<< (x67 &&& 31))))) rfl ?_
                    refine q_ast rfl rfl hc72 ?_
                    refine q_go 1 (pc' := 250) (ls' := [.ref 96, .int a0, .int x18, .int x67, .long 0]) (st' := []) (V' := (x_up (x_up V69 102 (((20 : Int32) + x18).toNatClampNeg) ((V69 102 (((20 : Int32) + x18).toNatClampNeg)) ||| ((1 : Int32) <<< (x67 &&& 31)))) 102 (((20 : Int32) + x67).toNatClampNeg) (((x_up V69 102 (((20 : Int32) + x18).toNatClampNeg) ((V69 102 (((20 : Int32) + x18).toNatClampNeg)) ||| ((1 : Int32) <<< (x67 &&& 31)))) 102 (((20 : Int32) + x67).toNatClampNeg)) ||| ((1 : Int32) <<< (x18 &&& 31))))) rfl ?_
                    obtain rfl := Option.some.inj h
                    exact q_ret rfl rfl
                · rw [if_neg hc56] at h
                  refine q_if rfl (fun _ => ?_) (fun c => absurd hc56 (of_decide_eq_false c))
                  refine q_go 1 (pc' := 148) (ls' := [.ref 96, .int a0, .int x18, .long 0, .long 0]) (st' := [.int (0 : Int32), .ref 96]) (V' := V54) rfl ?_
                  obtain ⟨x59, V58, hc57, h⟩ := x_b2_eq h
                  refine q_call (d := (4)) (as := [.ref 96, .int (0 : Int32)]) (pc' := 151) (ls' := [.ref 96, .int a0, .int x18, .long 0, .long 0]) (st' := []) (r1 := some x59) rfl rfl ((f_X7_takes_ok hc57).up (by decide)) ?_
                  refine q_go 2 (pc' := 153) (ls' := [.ref 96, .int a0, .int x18, .int x59, .long 0]) (st' := [.ref 96]) (V' := V58) rfl ?_
                  obtain ⟨x62, V61, hc60, h⟩ := x_b2_eq h
                  refine q_call (d := (4)) (as := [.ref 96]) (pc' := 156) (ls' := [.ref 96, .int a0, .int x18, .int x59, .long 0]) (st' := []) (r1 := some x62) rfl rfl ((f_X7_isWell_ok hc60).up (by decide)) ?_
                  by_cases hc63 : x62 = 0
                  · rw [if_pos hc63] at h
                    refine q_if rfl (fun _ => ?_) (fun c => absurd hc63 (of_decide_eq_false c))
                    refine q_go 1 (pc' := 250) (ls' := [.ref 96, .int a0, .int x18, .int x59, .long 0]) (st' := []) (V' := V61) rfl ?_
                    obtain rfl := Option.some.inj h
                    exact q_ret rfl rfl
                  · rw [if_neg hc63] at h
                    refine q_if rfl (fun c => absurd (of_decide_eq_true c) hc63) (fun _ => ?_)
                    refine q_go 6 (pc' := 168) (ls' := [.ref 96, .int a0, .int x18, .int x59, .long 0]) (st' := [.int ((20 : Int32) + x18), .ref 102, .int ((20 : Int32) + x18), .ref 102]) (V' := V61) rfl ?_
                    refine q_ald (Or.inl ⟨rfl, rfl⟩) rfl hc52 ?_
                    refine q_go 4 (pc' := 173) (ls' := [.ref 96, .int a0, .int x18, .int x59, .long 0]) (st' := [.int ((V61 102 (((20 : Int32) + x18).toNatClampNeg)) ||| ((1 : Int32) <<< (x59 &&& 31))), .int ((20 : Int32) + x18), .ref 102]) (V' := V61) rfl ?_
                    refine q_ast rfl rfl hc52 ?_
                    refine q_go 6 (pc' := 183) (ls' := [.ref 96, .int a0, .int x18, .int x59, .long 0]) (st' := [.int ((20 : Int32) + x59), .ref 102, .int ((20 : Int32) + x59), .ref 102]) (V' := (x_up V61 102 (((20 : Int32) + x18).toNatClampNeg) ((V61 102 (((20 : Int32) + x18).toNatClampNeg)) ||| ((1 : Int32) <<< (x59 &&& 31))))) rfl ?_
                    refine x_em (p := x_in ((20 : Int32) + x59) 27 = true) (fun hz => by rw [if_neg hz] at h; cases h) (fun hc64 => ?_)
                    rw [if_pos hc64] at h
                    refine q_ald (Or.inl ⟨rfl, rfl⟩) rfl hc64 ?_
                    refine q_go 4 (pc' := 188) (ls' := [.ref 96, .int a0, .int x18, .int x59, .long 0]) (st' := [.int (((x_up V61 102 (((20 : Int32) + x18).toNatClampNeg) ((V61 102 (((20 : Int32) + x18).toNatClampNeg)) ||| ((1 : Int32) <<< (x59 &&& 31)))) 102 (((20 : Int32) + x59).toNatClampNeg)) ||| ((1 : Int32) <<< (x18 &&& 31))), .int ((20 : Int32) + x59), .ref 102]) (V' := (x_up V61 102 (((20 : Int32) + x18).toNatClampNeg) ((V61 102 (((20 : Int32) + x18).toNatClampNeg)) ||| ((1 : Int32) <<< (x59 &&& 31))))) rfl ?_
                    refine q_ast rfl rfl hc64 ?_
                    refine q_go 1 (pc' := 250) (ls' := [.ref 96, .int a0, .int x18, .int x59, .long 0]) (st' := []) (V' := (x_up (x_up V61 102 (((20 : Int32) + x18).toNatClampNeg) ((V61 102 (((20 : Int32) + x18).toNatClampNeg)) ||| ((1 : Int32) <<< (x59 &&& 31)))) 102 (((20 : Int32) + x59).toNatClampNeg) (((x_up V61 102 (((20 : Int32) + x18).toNatClampNeg) ((V61 102 (((20 : Int32) + x18).toNatClampNeg)) ||| ((1 : Int32) <<< (x59 &&& 31)))) 102 (((20 : Int32) + x59).toNatClampNeg)) ||| ((1 : Int32) <<< (x18 &&& 31))))) rfl ?_
                    obtain rfl := Option.some.inj h
                    exact q_ret rfl rfl
          · rw [if_neg hc19] at h
            refine q_icmp rfl (fun _ => ?_) (fun c => absurd hc19 (of_decide_eq_false c))
            refine q_go 1 (pc' := 148) (ls' := [.ref 96, .int a0, .int x18, .long 0, .long 0]) (st' := [.int (0 : Int32), .ref 96]) (V' := V17) rfl ?_
            obtain ⟨x22, V21, hc20, h⟩ := x_b2_eq h
            refine q_call (d := (4)) (as := [.ref 96, .int (0 : Int32)]) (pc' := 151) (ls' := [.ref 96, .int a0, .int x18, .long 0, .long 0]) (st' := []) (r1 := some x22) rfl rfl ((f_X7_takes_ok hc20).up (by decide)) ?_
            refine q_go 2 (pc' := 153) (ls' := [.ref 96, .int a0, .int x18, .int x22, .long 0]) (st' := [.ref 96]) (V' := V21) rfl ?_
            obtain ⟨x25, V24, hc23, h⟩ := x_b2_eq h
            refine q_call (d := (4)) (as := [.ref 96]) (pc' := 156) (ls' := [.ref 96, .int a0, .int x18, .int x22, .long 0]) (st' := []) (r1 := some x25) rfl rfl ((f_X7_isWell_ok hc23).up (by decide)) ?_
            by_cases hc26 : x25 = 0
            · rw [if_pos hc26] at h
              refine q_if rfl (fun _ => ?_) (fun c => absurd hc26 (of_decide_eq_false c))
              refine q_go 1 (pc' := 250) (ls' := [.ref 96, .int a0, .int x18, .int x22, .long 0]) (st' := []) (V' := V24) rfl ?_
              obtain rfl := Option.some.inj h
              exact q_ret rfl rfl
            · rw [if_neg hc26] at h
              refine q_if rfl (fun c => absurd (of_decide_eq_true c) hc26) (fun _ => ?_)
              refine q_go 6 (pc' := 168) (ls' := [.ref 96, .int a0, .int x18, .int x22, .long 0]) (st' := [.int ((20 : Int32) + x18), .ref 102, .int ((20 : Int32) + x18), .ref 102]) (V' := V24) rfl ?_
              refine x_em (p := x_in ((20 : Int32) + x18) 27 = true) (fun hz => by rw [if_neg hz] at h; cases h) (fun hc27 => ?_)
              rw [if_pos hc27] at h
              refine q_ald (Or.inl ⟨rfl, rfl⟩) rfl hc27 ?_
              refine q_go 4 (pc' := 173) (ls' := [.ref 96, .int a0, .int x18, .int x22, .long 0]) (st' := [.int ((V24 102 (((20 : Int32) + x18).toNatClampNeg)) ||| ((1 : Int32) <<< (x22 &&& 31))), .int ((20 : Int32) + x18), .ref 102]) (V' := V24) rfl ?_
              refine q_ast rfl rfl hc27 ?_
              refine q_go 6 (pc' := 183) (ls' := [.ref 96, .int a0, .int x18, .int x22, .long 0]) (st' := [.int ((20 : Int32) + x22), .ref 102, .int ((20 : Int32) + x22), .ref 102]) (V' := (x_up V24 102 (((20 : Int32) + x18).toNatClampNeg) ((V24 102 (((20 : Int32) + x18).toNatClampNeg)) ||| ((1 : Int32) <<< (x22 &&& 31))))) rfl ?_
              refine x_em (p := x_in ((20 : Int32) + x22) 27 = true) (fun hz => by rw [if_neg hz] at h; cases h) (fun hc28 => ?_)
              rw [if_pos hc28] at h
              refine q_ald (Or.inl ⟨rfl, rfl⟩) rfl hc28 ?_
              refine q_go 4 (pc' := 188) (ls' := [.ref 96, .int a0, .int x18, .int x22, .long 0]) (st' := [.int (((x_up V24 102 (((20 : Int32) + x18).toNatClampNeg) ((V24 102 (((20 : Int32) + x18).toNatClampNeg)) ||| ((1 : Int32) <<< (x22 &&& 31)))) 102 (((20 : Int32) + x22).toNatClampNeg)) ||| ((1 : Int32) <<< (x18 &&& 31))), .int ((20 : Int32) + x22), .ref 102]) (V' := (x_up V24 102 (((20 : Int32) + x18).toNatClampNeg) ((V24 102 (((20 : Int32) + x18).toNatClampNeg)) ||| ((1 : Int32) <<< (x22 &&& 31))))) rfl ?_
              refine q_ast rfl rfl hc28 ?_
              refine q_go 1 (pc' := 250) (ls' := [.ref 96, .int a0, .int x18, .int x22, .long 0]) (st' := []) (V' := (x_up (x_up V24 102 (((20 : Int32) + x18).toNatClampNeg) ((V24 102 (((20 : Int32) + x18).toNatClampNeg)) ||| ((1 : Int32) <<< (x22 &&& 31)))) 102 (((20 : Int32) + x22).toNatClampNeg) (((x_up V24 102 (((20 : Int32) + x18).toNatClampNeg) ((V24 102 (((20 : Int32) + x18).toNatClampNeg)) ||| ((1 : Int32) <<< (x22 &&& 31)))) 102 (((20 : Int32) + x22).toNatClampNeg)) ||| ((1 : Int32) <<< (x18 &&& 31))))) rfl ?_
              obtain rfl := Option.some.inj h
              exact q_ret rfl rfl
        · rw [if_neg hc4] at h
          refine q_icmp rfl (fun _ => ?_) (fun c => absurd hc4 (of_decide_eq_false c))
          refine q_go 6 (pc' := 200) (ls' := [.ref 96, .int a0, .long 0, .long 0, .long 0]) (st' := [.int ((V 96 13) - 1), .int (0 : Int32), .ref 96]) (V' := V) rfl ?_
          obtain ⟨x7, V6, hc5, h⟩ := x_b2_eq h
          refine q_call (d := (4)) (as := [.ref 96, .int (0 : Int32), .int ((V 96 13) - 1)]) (pc' := 203) (ls' := [.ref 96, .int a0, .long 0, .long 0, .long 0]) (st' := []) (r1 := some x7) rfl rfl ((f_X7_number_ok hc5).up (by decide)) ?_
          refine q_go 7 (pc' := 212) (ls' := [.ref 96, .int a0, .int x7, .long 0, .long 0]) (st' := [.int ((V6 96 14) - 1), .int (0 : Int32), .ref 96]) (V' := V6) rfl ?_
          obtain ⟨x10, V9, hc8, h⟩ := x_b2_eq h
          refine q_call (d := (4)) (as := [.ref 96, .int (0 : Int32), .int ((V6 96 14) - 1)]) (pc' := 215) (ls' := [.ref 96, .int a0, .int x7, .long 0, .long 0]) (st' := []) (r1 := some x10) rfl rfl ((f_X7_number_ok hc8).up (by decide)) ?_
          refine q_go 7 (pc' := 224) (ls' := [.ref 96, .int a0, .int x7, .int x10, .long 0]) (st' := [.int ((V9 96 14) - 1), .int x10, .ref 96]) (V' := V9) rfl ?_
          obtain ⟨x13, V12, hc11, h⟩ := x_b2_eq h
          refine q_call (d := (4)) (as := [.ref 96, .int x10, .int ((V9 96 14) - 1)]) (pc' := 227) (ls' := [.ref 96, .int a0, .int x7, .int x10, .long 0]) (st' := []) (r1 := some x13) rfl rfl ((f_X7_number_ok hc11).up (by decide)) ?_
          refine q_go 7 (pc' := 238) (ls' := [.ref 96, .int a0, .int x7, .int x10, .int x13]) (st' := [.int x10, .int ((8 : Int32) + x7), .ref 102]) (V' := V12) rfl ?_
          refine x_em (p := x_in ((8 : Int32) + x7) 27 = true) (fun hz => by rw [if_neg hz] at h; cases h) (fun hc14 => ?_)
          rw [if_pos hc14] at h
          refine q_ast rfl rfl hc14 ?_
          refine q_go 6 (pc' := 249) (ls' := [.ref 96, .int a0, .int x7, .int x10, .int x13]) (st' := [.int x13, .int ((14 : Int32) + x7), .ref 102]) (V' := (x_up V12 102 (((8 : Int32) + x7).toNatClampNeg) x10)) rfl ?_
          refine x_em (p := x_in ((14 : Int32) + x7) 27 = true) (fun hz => by rw [if_neg hz] at h; cases h) (fun hc15 => ?_)
          rw [if_pos hc15] at h
          refine q_ast rfl rfl hc15 ?_
          obtain rfl := Option.some.inj h
          exact q_ret rfl rfl
def f_X7_mayBegin (V : xV) : Option (Int32 × xV) := if (V 96 6) = (99 : Int32) then (if (V 96 16) = 0 then (if (V 96 13) = 0 then (some ((1 : Int32), V)) else (some ((0 : Int32), V))) else (some ((0 : Int32), V))) else (if (V 96 6) = (108 : Int32) then (if (V 96 17) = 0 then (if (V 96 13) = 0 then (some ((1 : Int32), V)) else (some ((0 : Int32), V))) else (some ((0 : Int32), V))) else (if (V 96 6) = (116 : Int32) then (if (6 : Int32) ≤ (V 96 13) then (some ((0 : Int32), V)) else (some ((1 : Int32), V))) else (some ((1 : Int32), V))))
theorem f_X7_mayBegin_ok {V W : xV} {x : Int32} (h : f_X7_mayBegin V = some (x, W)) : x_Rn (0) 107 [.ref 96] V (some x) W := by
  refine ⟨1, kX7_mayBegin, rfl, ?_⟩
  show x_Ex (0) kX7_mayBegin 0 [.ref 96] [] V (some x) W
  unfold f_X7_mayBegin at h
  refine q_go 3 (pc' := 6) (ls' := [.ref 96]) (st' := [.int (99 : Int32), .int (V 96 6)]) (V' := V) rfl ?_
  by_cases hc1 : (V 96 6) = (99 : Int32)
  · rw [if_pos hc1] at h
    refine q_icmp rfl (fun c => absurd hc1 (of_decide_eq_true c)) (fun _ => ?_)
    refine q_go 2 (pc' := 13) (ls' := [.ref 96]) (st' := [.int (V 96 16)]) (V' := V) rfl ?_
    by_cases hc7 : (V 96 16) = 0
    · rw [if_pos hc7] at h
      refine q_if rfl (fun c => absurd hc7 (of_decide_eq_true c)) (fun _ => ?_)
      refine q_go 2 (pc' := 20) (ls' := [.ref 96]) (st' := [.int (V 96 13)]) (V' := V) rfl ?_
      by_cases hc8 : (V 96 13) = 0
      · rw [if_pos hc8] at h
        refine q_if rfl (fun c => absurd hc8 (of_decide_eq_true c)) (fun _ => ?_)
        refine q_go 2 (pc' := 28) (ls' := [.ref 96]) (st' := [.int (1 : Int32)]) (V' := V) rfl ?_
        obtain ⟨rfl, rfl⟩ := x_p2 h
        exact q_ret rfl rfl
      · rw [if_neg hc8] at h
        refine q_if rfl (fun _ => ?_) (fun c => absurd hc8 (of_decide_eq_false c))
        refine q_go 1 (pc' := 28) (ls' := [.ref 96]) (st' := [.int (0 : Int32)]) (V' := V) rfl ?_
        obtain ⟨rfl, rfl⟩ := x_p2 h
        exact q_ret rfl rfl
    · rw [if_neg hc7] at h
      refine q_if rfl (fun _ => ?_) (fun c => absurd hc7 (of_decide_eq_false c))
      refine q_go 1 (pc' := 28) (ls' := [.ref 96]) (st' := [.int (0 : Int32)]) (V' := V) rfl ?_
      obtain ⟨rfl, rfl⟩ := x_p2 h
      exact q_ret rfl rfl
  · rw [if_neg hc1] at h
    refine q_icmp rfl (fun _ => ?_) (fun c => absurd hc1 (of_decide_eq_false c))
    refine q_go 3 (pc' := 35) (ls' := [.ref 96]) (st' := [.int (108 : Int32), .int (V 96 6)]) (V' := V) rfl ?_
    by_cases hc2 : (V 96 6) = (108 : Int32)
    · rw [if_pos hc2] at h
      refine q_icmp rfl (fun c => absurd hc2 (of_decide_eq_true c)) (fun _ => ?_)
      refine q_go 2 (pc' := 42) (ls' := [.ref 96]) (st' := [.int (V 96 17)]) (V' := V) rfl ?_
      by_cases hc5 : (V 96 17) = 0
      · rw [if_pos hc5] at h
        refine q_if rfl (fun c => absurd hc5 (of_decide_eq_true c)) (fun _ => ?_)
        refine q_go 2 (pc' := 49) (ls' := [.ref 96]) (st' := [.int (V 96 13)]) (V' := V) rfl ?_
        by_cases hc6 : (V 96 13) = 0
        · rw [if_pos hc6] at h
          refine q_if rfl (fun c => absurd hc6 (of_decide_eq_true c)) (fun _ => ?_)
          refine q_go 2 (pc' := 57) (ls' := [.ref 96]) (st' := [.int (1 : Int32)]) (V' := V) rfl ?_
          obtain ⟨rfl, rfl⟩ := x_p2 h
          exact q_ret rfl rfl
        · rw [if_neg hc6] at h
          refine q_if rfl (fun _ => ?_) (fun c => absurd hc6 (of_decide_eq_false c))
          refine q_go 1 (pc' := 57) (ls' := [.ref 96]) (st' := [.int (0 : Int32)]) (V' := V) rfl ?_
          obtain ⟨rfl, rfl⟩ := x_p2 h
          exact q_ret rfl rfl
      · rw [if_neg hc5] at h
        refine q_if rfl (fun _ => ?_) (fun c => absurd hc5 (of_decide_eq_false c))
        refine q_go 1 (pc' := 57) (ls' := [.ref 96]) (st' := [.int (0 : Int32)]) (V' := V) rfl ?_
        obtain ⟨rfl, rfl⟩ := x_p2 h
        exact q_ret rfl rfl
    · rw [if_neg hc2] at h
      refine q_icmp rfl (fun _ => ?_) (fun c => absurd hc2 (of_decide_eq_false c))
      refine q_go 3 (pc' := 64) (ls' := [.ref 96]) (st' := [.int (116 : Int32), .int (V 96 6)]) (V' := V) rfl ?_
      by_cases hc3 : (V 96 6) = (116 : Int32)
      · rw [if_pos hc3] at h
        refine q_icmp rfl (fun c => absurd hc3 (of_decide_eq_true c)) (fun _ => ?_)
        refine q_go 3 (pc' := 73) (ls' := [.ref 96]) (st' := [.int (6 : Int32), .int (V 96 13)]) (V' := V) rfl ?_
        by_cases hc4 : (6 : Int32) ≤ (V 96 13)
        · rw [if_pos hc4] at h
          refine q_icmp rfl (fun _ => ?_) (fun c => absurd hc4 (of_decide_eq_false c))
          refine q_go 1 (pc' := 81) (ls' := [.ref 96]) (st' := [.int (0 : Int32)]) (V' := V) rfl ?_
          obtain ⟨rfl, rfl⟩ := x_p2 h
          exact q_ret rfl rfl
        · rw [if_neg hc4] at h
          refine q_icmp rfl (fun c => absurd (of_decide_eq_true c) hc4) (fun _ => ?_)
          refine q_go 2 (pc' := 81) (ls' := [.ref 96]) (st' := [.int (1 : Int32)]) (V' := V) rfl ?_
          obtain ⟨rfl, rfl⟩ := x_p2 h
          exact q_ret rfl rfl
      · rw [if_neg hc3] at h
        refine q_icmp rfl (fun _ => ?_) (fun c => absurd hc3 (of_decide_eq_false c))
        refine q_go 2 (pc' := 81) (ls' := [.ref 96]) (st' := [.int (1 : Int32)]) (V' := V) rfl ?_
        obtain ⟨rfl, rfl⟩ := x_p2 h
        exact q_ret rfl rfl
def f_X7_settles_L26 : Nat → (Int32 → xV → Option (xV)) → Int32 → xV → Option (xV)
  | 0, _, _, _ => none
  | n + 1, k, l1, V => if (4 : Int32) ≤ l1 then (k l1 V) else (if x_in l1 4 = true then (f_X7_settles_L26 n k (l1 + (1 : Int32)) (x_up V 98 (l1.toNatClampNeg) (V 100 (l1.toNatClampNeg)))) else none)
theorem f_X7_settles_L26_ok {k : Int32 → xV → Option (xV)}  {W : xV} (hk : ∀ (l1 : Int32) (V : xV), k l1 V = some W → x_Ex (0) kX7_settles 49 [.ref 96, .int l1] [] V none W) : ∀ (n : Nat) (l1 : Int32) (V : xV), f_X7_settles_L26 n k l1 V = some W → x_Ex (0) kX7_settles 26 [.ref 96, .int l1] [] V none W := by
  intro n
  induction n with
  | zero => intro l1 V  h; cases h
  | succ n ih =>
    intro l1 V  h
    unfold f_X7_settles_L26 at h
    refine q_go 2 (pc' := 28) (ls' := [.ref 96, .int l1]) (st' := [.int (4 : Int32), .int l1]) (V' := V) rfl ?_
    by_cases hc1 : (4 : Int32) ≤ l1
    · rw [if_pos hc1] at h
      refine q_icmp rfl (fun _ => ?_) (fun c => absurd hc1 (of_decide_eq_false c))
      exact hk l1 V  h
    · rw [if_neg hc1] at h
      refine q_icmp rfl (fun c => absurd (of_decide_eq_true c) hc1) (fun _ => ?_)
      refine q_go 6 (pc' := 41) (ls' := [.ref 96, .int l1]) (st' := [.int l1, .ref 100, .int l1, .ref 98]) (V' := V) rfl ?_
      refine x_em (p := x_in l1 4 = true) (fun hz => by rw [if_neg hz] at h; cases h) (fun hc2 => ?_)
      rw [if_pos hc2] at h
      refine q_ald (Or.inl ⟨rfl, rfl⟩) rfl hc2 ?_
      refine q_ast rfl rfl hc2 ?_
      refine q_go 2 (pc' := 26) (ls' := [.ref 96, .int (l1 + (1 : Int32))]) (st' := []) (V' := (x_up V 98 (l1.toNatClampNeg) (V 100 (l1.toNatClampNeg)))) rfl ?_
      exact ih (l1 + (1 : Int32)) (x_up V 98 (l1.toNatClampNeg) (V 100 (l1.toNatClampNeg)))  h
def f_X7_settles_L51 : Nat → (Int32 → xV → Option (xV)) → Int32 → xV → Option (xV)
  | 0, _, _, _ => none
  | n + 1, k, l1, V => if (6 : Int32) ≤ l1 then (k l1 V) else (if x_in l1 6 = true then (f_X7_settles_L51 n k (l1 + (1 : Int32)) (x_up V 99 (l1.toNatClampNeg) (V 101 (l1.toNatClampNeg)))) else none)
theorem f_X7_settles_L51_ok {k : Int32 → xV → Option (xV)}  {W : xV} (hk : ∀ (l1 : Int32) (V : xV), k l1 V = some W → x_Ex (0) kX7_settles 75 [.ref 96, .int l1] [] V none W) : ∀ (n : Nat) (l1 : Int32) (V : xV), f_X7_settles_L51 n k l1 V = some W → x_Ex (0) kX7_settles 51 [.ref 96, .int l1] [] V none W := by
  intro n
  induction n with
  | zero => intro l1 V  h; cases h
  | succ n ih =>
    intro l1 V  h
    unfold f_X7_settles_L51 at h
    refine q_go 2 (pc' := 54) (ls' := [.ref 96, .int l1]) (st' := [.int (6 : Int32), .int l1]) (V' := V) rfl ?_
    by_cases hc5 : (6 : Int32) ≤ l1
    · rw [if_pos hc5] at h
      refine q_icmp rfl (fun _ => ?_) (fun c => absurd hc5 (of_decide_eq_false c))
      exact hk l1 V  h
    · rw [if_neg hc5] at h
      refine q_icmp rfl (fun c => absurd (of_decide_eq_true c) hc5) (fun _ => ?_)
      refine q_go 6 (pc' := 67) (ls' := [.ref 96, .int l1]) (st' := [.int l1, .ref 101, .int l1, .ref 99]) (V' := V) rfl ?_
      refine x_em (p := x_in l1 6 = true) (fun hz => by rw [if_neg hz] at h; cases h) (fun hc6 => ?_)
      rw [if_pos hc6] at h
      refine q_ald (Or.inl ⟨rfl, rfl⟩) rfl hc6 ?_
      refine q_ast rfl rfl hc6 ?_
      refine q_go 2 (pc' := 51) (ls' := [.ref 96, .int (l1 + (1 : Int32))]) (st' := []) (V' := (x_up V 99 (l1.toNatClampNeg) (V 101 (l1.toNatClampNeg)))) rfl ?_
      exact ih (l1 + (1 : Int32)) (x_up V 99 (l1.toNatClampNeg) (V 101 (l1.toNatClampNeg)))  h
def f_X7_settles_L77 : Nat → (Int32 → xV → Option (xV)) → Int32 → xV → Option (xV)
  | 0, _, _, _ => none
  | n + 1, k, l1, V => if (27 : Int32) ≤ l1 then (k l1 V) else (if x_in l1 27 = true then (f_X7_settles_L77 n k (l1 + (1 : Int32)) (x_up V 103 (l1.toNatClampNeg) (V 102 (l1.toNatClampNeg)))) else none)
theorem f_X7_settles_L77_ok {k : Int32 → xV → Option (xV)}  {W : xV} (hk : ∀ (l1 : Int32) (V : xV), k l1 V = some W → x_Ex (0) kX7_settles 101 [.ref 96, .int l1] [] V none W) : ∀ (n : Nat) (l1 : Int32) (V : xV), f_X7_settles_L77 n k l1 V = some W → x_Ex (0) kX7_settles 77 [.ref 96, .int l1] [] V none W := by
  intro n
  induction n with
  | zero => intro l1 V  h; cases h
  | succ n ih =>
    intro l1 V  h
    unfold f_X7_settles_L77 at h
    refine q_go 2 (pc' := 80) (ls' := [.ref 96, .int l1]) (st' := [.int (27 : Int32), .int l1]) (V' := V) rfl ?_
    by_cases hc9 : (27 : Int32) ≤ l1
    · rw [if_pos hc9] at h
      refine q_icmp rfl (fun _ => ?_) (fun c => absurd hc9 (of_decide_eq_false c))
      exact hk l1 V  h
    · rw [if_neg hc9] at h
      refine q_icmp rfl (fun c => absurd (of_decide_eq_true c) hc9) (fun _ => ?_)
      refine q_go 6 (pc' := 93) (ls' := [.ref 96, .int l1]) (st' := [.int l1, .ref 102, .int l1, .ref 103]) (V' := V) rfl ?_
      refine x_em (p := x_in l1 27 = true) (fun hz => by rw [if_neg hz] at h; cases h) (fun hc10 => ?_)
      rw [if_pos hc10] at h
      refine q_ald (Or.inl ⟨rfl, rfl⟩) rfl hc10 ?_
      refine q_ast rfl rfl hc10 ?_
      refine q_go 2 (pc' := 77) (ls' := [.ref 96, .int (l1 + (1 : Int32))]) (st' := []) (V' := (x_up V 103 (l1.toNatClampNeg) (V 102 (l1.toNatClampNeg)))) rfl ?_
      exact ih (l1 + (1 : Int32)) (x_up V 103 (l1.toNatClampNeg) (V 102 (l1.toNatClampNeg)))  h
def f_X7_settles (V : xV) : Option (xV) := f_X7_settles_L26 300 (fun l1_3 V4 => f_X7_settles_L51 300 (fun l1_7 V8 => f_X7_settles_L77 300 (fun l1_11 V12 => some (x_up (x_up (x_up (x_up (x_up V12 96 2 (0 : Int32)) 96 27 (0 : Int32)) 96 23 (0 : Int32)) 106 0 (0 : Int32)) 106 1 (0 : Int32))) (0 : Int32) V8) (0 : Int32) V4) (0 : Int32) (x_up (x_up (x_up V 96 8 (V 96 13)) 96 9 (V 96 14)) 96 10 (V 96 15))
theorem f_X7_settles_ok {V W : xV}  (h : f_X7_settles V = some W) : x_Rn (0) 111 [.ref 96] V none W := by
  refine ⟨2, kX7_settles, rfl, ?_⟩
  show x_Ex (0) kX7_settles 0 [.ref 96, .long 0] [] V none W
  unfold f_X7_settles at h
  refine q_go 14 (pc' := 26) (ls' := [.ref 96, .int (0 : Int32)]) (st' := []) (V' := (x_up (x_up (x_up V 96 8 (V 96 13)) 96 9 (V 96 14)) 96 10 (V 96 15))) rfl ?_
  refine f_X7_settles_L26_ok (fun l1_3 V4 h => ?_) 300 (0 : Int32) (x_up (x_up (x_up V 96 8 (V 96 13)) 96 9 (V 96 14)) 96 10 (V 96 15))  h
  refine q_go 2 (pc' := 51) (ls' := [.ref 96, .int (0 : Int32)]) (st' := []) (V' := V4) rfl ?_
  refine f_X7_settles_L51_ok (fun l1_7 V8 h => ?_) 300 (0 : Int32) V4  h
  refine q_go 2 (pc' := 77) (ls' := [.ref 96, .int (0 : Int32)]) (st' := []) (V' := V8) rfl ?_
  refine f_X7_settles_L77_ok (fun l1_11 V12 h => ?_) 300 (0 : Int32) V8  h
  refine q_go 13 (pc' := 122) (ls' := [.ref 96, .int l1_11]) (st' := [.int (0 : Int32), .int (0 : Int32), .ref 106]) (V' := (x_up (x_up (x_up V12 96 2 (0 : Int32)) 96 27 (0 : Int32)) 96 23 (0 : Int32))) rfl ?_
  refine q_zst rfl rfl rfl (by decide) ?_
  refine q_go 4 (pc' := 129) (ls' := [.ref 96, .int l1_11]) (st' := [.int (0 : Int32), .int (1 : Int32), .ref 106]) (V' := (x_up (x_up (x_up (x_up V12 96 2 (0 : Int32)) 96 27 (0 : Int32)) 96 23 (0 : Int32)) 106 0 (0 : Int32))) rfl ?_
  refine q_zst rfl rfl rfl (by decide) ?_
  obtain rfl := Option.some.inj h
  exact q_ret rfl rfl
def f_X7_house_L25 : Nat → (Int32 → xV → Option (Int32 × xV)) → Int32 → xV → Option (Int32 × xV)
  | 0, _, _, _ => none
  | n + 1, k, l1, V => x_b2 (f_X7_isWell V) (fun x7 V6 => if x7 = 0 then (k l1 V6) else (if (V6 96 4) = 0 then (k l1 V6) else (if (V6 96 4) = (1 : Int32) then (x_b2 (f_X7_mayBegin V6) (fun x36 V35 => if x36 = 0 then (x_b2 (f_X7_takes (0 : Int32) V35) (fun x40 V39 => x_b2 (f_X7_isWell V39) (fun x43 V42 => if x43 = 0 then (if (V42 96 4) = (3 : Int32) then (x_b2 (f_X7_takes (1 : Int32) V42) (fun x51 V50 => f_X7_house_L25 n k (l1 + (1 : Int32)) V50)) else (x_b2 (f_X7_takes (0 : Int32) V42) (fun x48 V47 => f_X7_house_L25 n k (l1 + (1 : Int32)) V47))) else (x_b1 (f_X7_readsItem x40 V42) (fun V53 => if (V53 96 4) = (3 : Int32) then (x_b2 (f_X7_takes (1 : Int32) V53) (fun x60 V59 => f_X7_house_L25 n k (l1 + (1 : Int32)) V59)) else (x_b2 (f_X7_takes (0 : Int32) V53) (fun x57 V56 => f_X7_house_L25 n k (l1 + (1 : Int32)) V56))))))) else (x_b2 (f_X7_takes (1 : Int32) V35) (fun x63 V62 => x_b2 (f_X7_isWell V62) (fun x66 V65 => if x66 = 0 then (if (V65 96 4) = (3 : Int32) then (x_b2 (f_X7_takes (1 : Int32) V65) (fun x74 V73 => f_X7_house_L25 n k (l1 + (1 : Int32)) V73)) else (x_b2 (f_X7_takes (0 : Int32) V65) (fun x71 V70 => f_X7_house_L25 n k (l1 + (1 : Int32)) V70))) else (x_b1 (f_X7_readsItem x63 V65) (fun V76 => if (V76 96 4) = (3 : Int32) then (x_b2 (f_X7_takes (1 : Int32) V76) (fun x83 V82 => f_X7_house_L25 n k (l1 + (1 : Int32)) V82)) else (x_b2 (f_X7_takes (0 : Int32) V76) (fun x80 V79 => f_X7_house_L25 n k (l1 + (1 : Int32)) V79))))))))) else (x_b2 (f_X7_takes (0 : Int32) V6) (fun x13 V12 => x_b2 (f_X7_isWell V12) (fun x16 V15 => if x16 = 0 then (if (V15 96 4) = (3 : Int32) then (x_b2 (f_X7_takes (1 : Int32) V15) (fun x24 V23 => f_X7_house_L25 n k (l1 + (1 : Int32)) V23)) else (x_b2 (f_X7_takes (0 : Int32) V15) (fun x21 V20 => f_X7_house_L25 n k (l1 + (1 : Int32)) V20))) else (x_b1 (f_X7_readsItem x13 V15) (fun V26 => if (V26 96 4) = (3 : Int32) then (x_b2 (f_X7_takes (1 : Int32) V26) (fun x33 V32 => f_X7_house_L25 n k (l1 + (1 : Int32)) V32)) else (x_b2 (f_X7_takes (0 : Int32) V26) (fun x30 V29 => f_X7_house_L25 n k (l1 + (1 : Int32)) V29))))))))))
theorem f_X7_house_L25_ok {k : Int32 → xV → Option (Int32 × xV)} {x : Int32} {W : xV} (hk : ∀ (l1 : Int32) (V : xV) (g2 : Value), k l1 V = some (x, W) → x_Ex (6) kX7_house 100 [.ref 96, .int l1, g2] [] V (some x) W) : ∀ (n : Nat) (l1 : Int32) (V : xV) (g2 : Value), f_X7_house_L25 n k l1 V = some (x, W) → x_Ex (6) kX7_house 25 [.ref 96, .int l1, g2] [] V (some x) W := by
  intro n
  induction n with
  | zero => intro l1 V g2 h; cases h
  | succ n ih =>
    intro l1 V g2 h
    unfold f_X7_house_L25 at h
    refine q_go 1 (pc' := 26) (ls' := [.ref 96, .int l1, g2]) (st' := [.ref 96]) (V' := V) rfl ?_
    obtain ⟨x7, V6, hc5, h⟩ := x_b2_eq h
    refine q_call (d := (5)) (as := [.ref 96]) (pc' := 29) (ls' := [.ref 96, .int l1, g2]) (st' := []) (r1 := some x7) rfl rfl ((f_X7_isWell_ok hc5).up (by decide)) ?_
    by_cases hc8 : x7 = 0
    · rw [if_pos hc8] at h
      refine q_if rfl (fun _ => ?_) (fun c => absurd hc8 (of_decide_eq_false c))
      exact hk l1 V6 g2 h
    · rw [if_neg hc8] at h
      refine q_if rfl (fun c => absurd (of_decide_eq_true c) hc8) (fun _ => ?_)
      refine q_go 2 (pc' := 36) (ls' := [.ref 96, .int l1, g2]) (st' := [.int (V6 96 4)]) (V' := V6) rfl ?_
      by_cases hc9 : (V6 96 4) = 0
      · rw [if_pos hc9] at h
        refine q_if rfl (fun _ => ?_) (fun c => absurd hc9 (of_decide_eq_false c))
        exact hk l1 V6 g2 h
      · rw [if_neg hc9] at h
        refine q_if rfl (fun c => absurd (of_decide_eq_true c) hc9) (fun _ => ?_)
        refine q_go 4 (pc' := 45) (ls' := [.ref 96, .int l1, g2]) (st' := [.int (1 : Int32), .int (V6 96 4), .ref 96]) (V' := V6) rfl ?_
        by_cases hc10 : (V6 96 4) = (1 : Int32)
        · rw [if_pos hc10] at h
          refine q_icmp rfl (fun c => absurd hc10 (of_decide_eq_true c)) (fun _ => ?_)
          refine q_go 1 (pc' := 49) (ls' := [.ref 96, .int l1, g2]) (st' := [.ref 96, .ref 96]) (V' := V6) rfl ?_
          obtain ⟨x36, V35, hc34, h⟩ := x_b2_eq h
          refine q_call (d := (5)) (as := [.ref 96]) (pc' := 52) (ls' := [.ref 96, .int l1, g2]) (st' := [.ref 96]) (r1 := some x36) rfl rfl ((f_X7_mayBegin_ok hc34).up (by decide)) ?_
          by_cases hc37 : x36 = 0
          · rw [if_pos hc37] at h
            refine q_if rfl (fun _ => ?_) (fun c => absurd hc37 (of_decide_eq_false c))
            refine q_go 1 (pc' := 60) (ls' := [.ref 96, .int l1, g2]) (st' := [.int (0 : Int32), .ref 96]) (V' := V35) rfl ?_
            obtain ⟨x40, V39, hc38, h⟩ := x_b2_eq h
            refine q_call (d := (5)) (as := [.ref 96, .int (0 : Int32)]) (pc' := 63) (ls' := [.ref 96, .int l1, g2]) (st' := []) (r1 := some x40) rfl rfl ((f_X7_takes_ok hc38).up (by decide)) ?_
            refine q_go 2 (pc' := 65) (ls' := [.ref 96, .int l1, .int x40]) (st' := [.ref 96]) (V' := V39) rfl ?_
            obtain ⟨x43, V42, hc41, h⟩ := x_b2_eq h
            refine q_call (d := (5)) (as := [.ref 96]) (pc' := 68) (ls' := [.ref 96, .int l1, .int x40]) (st' := []) (r1 := some x43) rfl rfl ((f_X7_isWell_ok hc41).up (by decide)) ?_
            by_cases hc44 : x43 = 0
            · rw [if_pos hc44] at h
              refine q_if rfl (fun _ => ?_) (fun c => absurd hc44 (of_decide_eq_false c))
              refine q_go 4 (pc' := 82) (ls' := [.ref 96, .int l1, .int x40]) (st' := [.int (3 : Int32), .int (V42 96 4), .ref 96]) (V' := V42) rfl ?_
              by_cases hc45 : (V42 96 4) = (3 : Int32)
              · rw [if_pos hc45] at h
                refine q_icmp rfl (fun c => absurd hc45 (of_decide_eq_true c)) (fun _ => ?_)
                refine q_go 2 (pc' := 90) (ls' := [.ref 96, .int l1, .int x40]) (st' := [.int (1 : Int32), .ref 96]) (V' := V42) rfl ?_
                obtain ⟨x51, V50, hc49, h⟩ := x_b2_eq h
                refine q_call (d := (5)) (as := [.ref 96, .int (1 : Int32)]) (pc' := 93) (ls' := [.ref 96, .int l1, .int x40]) (st' := []) (r1 := some x51) rfl rfl ((f_X7_takes_ok hc49).up (by decide)) ?_
                refine q_go 3 (pc' := 25) (ls' := [.ref 96, .int (l1 + (1 : Int32)), .int x40]) (st' := []) (V' := V50) rfl ?_
                exact ih (l1 + (1 : Int32)) V50 (.int x40) h
              · rw [if_neg hc45] at h
                refine q_icmp rfl (fun _ => ?_) (fun c => absurd hc45 (of_decide_eq_false c))
                refine q_go 1 (pc' := 90) (ls' := [.ref 96, .int l1, .int x40]) (st' := [.int (0 : Int32), .ref 96]) (V' := V42) rfl ?_
                obtain ⟨x48, V47, hc46, h⟩ := x_b2_eq h
                refine q_call (d := (5)) (as := [.ref 96, .int (0 : Int32)]) (pc' := 93) (ls' := [.ref 96, .int l1, .int x40]) (st' := []) (r1 := some x48) rfl rfl ((f_X7_takes_ok hc46).up (by decide)) ?_
                refine q_go 3 (pc' := 25) (ls' := [.ref 96, .int (l1 + (1 : Int32)), .int x40]) (st' := []) (V' := V47) rfl ?_
                exact ih (l1 + (1 : Int32)) V47 (.int x40) h
            · rw [if_neg hc44] at h
              refine q_if rfl (fun c => absurd (of_decide_eq_true c) hc44) (fun _ => ?_)
              refine q_go 2 (pc' := 73) (ls' := [.ref 96, .int l1, .int x40]) (st' := [.int x40, .ref 96]) (V' := V42) rfl ?_
              obtain ⟨V53, hc52, h⟩ := x_b1_eq h
              refine q_call (d := (5)) (as := [.ref 96, .int x40]) (pc' := 76) (ls' := [.ref 96, .int l1, .int x40]) (st' := []) (r1 := none) rfl rfl ((f_X7_readsItem_ok hc52).up (by decide)) ?_
              refine q_go 4 (pc' := 82) (ls' := [.ref 96, .int l1, .int x40]) (st' := [.int (3 : Int32), .int (V53 96 4), .ref 96]) (V' := V53) rfl ?_
              by_cases hc54 : (V53 96 4) = (3 : Int32)
              · rw [if_pos hc54] at h
                refine q_icmp rfl (fun c => absurd hc54 (of_decide_eq_true c)) (fun _ => ?_)
                refine q_go 2 (pc' := 90) (ls' := [.ref 96, .int l1, .int x40]) (st' := [.int (1 : Int32), .ref 96]) (V' := V53) rfl ?_
                obtain ⟨x60, V59, hc58, h⟩ := x_b2_eq h
                refine q_call (d := (5)) (as := [.ref 96, .int (1 : Int32)]) (pc' := 93) (ls' := [.ref 96, .int l1, .int x40]) (st' := []) (r1 := some x60) rfl rfl ((f_X7_takes_ok hc58).up (by decide)) ?_
                refine q_go 3 (pc' := 25) (ls' := [.ref 96, .int (l1 + (1 : Int32)), .int x40]) (st' := []) (V' := V59) rfl ?_
                exact ih (l1 + (1 : Int32)) V59 (.int x40) h
              · rw [if_neg hc54] at h
                refine q_icmp rfl (fun _ => ?_) (fun c => absurd hc54 (of_decide_eq_false c))
                refine q_go 1 (pc' := 90) (ls' := [.ref 96, .int l1, .int x40]) (st' := [.int (0 : Int32), .ref 96]) (V' := V53) rfl ?_
                obtain ⟨x57, V56, hc55, h⟩ := x_b2_eq h
                refine q_call (d := (5)) (as := [.ref 96, .int (0 : Int32)]) (pc' := 93) (ls' := [.ref 96, .int l1, .int x40]) (st' := []) (r1 := some x57) rfl rfl ((f_X7_takes_ok hc55).up (by decide)) ?_
                refine q_go 3 (pc' := 25) (ls' := [.ref 96, .int (l1 + (1 : Int32)), .int x40]) (st' := []) (V' := V56) rfl ?_
                exact ih (l1 + (1 : Int32)) V56 (.int x40) h
          · rw [if_neg hc37] at h
            refine q_if rfl (fun c => absurd (of_decide_eq_true c) hc37) (fun _ => ?_)
            refine q_go 2 (pc' := 60) (ls' := [.ref 96, .int l1, g2]) (st' := [.int (1 : Int32), .ref 96]) (V' := V35) rfl ?_
            obtain ⟨x63, V62, hc61, h⟩ := x_b2_eq h
            refine q_call (d := (5)) (as := [.ref 96, .int (1 : Int32)]) (pc' := 63) (ls' := [.ref 96, .int l1, g2]) (st' := []) (r1 := some x63) rfl rfl ((f_X7_takes_ok hc61).up (by decide)) ?_
            refine q_go 2 (pc' := 65) (ls' := [.ref 96, .int l1, .int x63]) (st' := [.ref 96]) (V' := V62) rfl ?_
            obtain ⟨x66, V65, hc64, h⟩ := x_b2_eq h
            refine q_call (d := (5)) (as := [.ref 96]) (pc' := 68) (ls' := [.ref 96, .int l1, .int x63]) (st' := []) (r1 := some x66) rfl rfl ((f_X7_isWell_ok hc64).up (by decide)) ?_
            by_cases hc67 : x66 = 0
            · rw [if_pos hc67] at h
              refine q_if rfl (fun _ => ?_) (fun c => absurd hc67 (of_decide_eq_false c))
              refine q_go 4 (pc' := 82) (ls' := [.ref 96, .int l1, .int x63]) (st' := [.int (3 : Int32), .int (V65 96 4), .ref 96]) (V' := V65) rfl ?_
              by_cases hc68 : (V65 96 4) = (3 : Int32)
              · rw [if_pos hc68] at h
                refine q_icmp rfl (fun c => absurd hc68 (of_decide_eq_true c)) (fun _ => ?_)
                refine q_go 2 (pc' := 90) (ls' := [.ref 96, .int l1, .int x63]) (st' := [.int (1 : Int32), .ref 96]) (V' := V65) rfl ?_
                obtain ⟨x74, V73, hc72, h⟩ := x_b2_eq h
                refine q_call (d := (5)) (as := [.ref 96, .int (1 : Int32)]) (pc' := 93) (ls' := [.ref 96, .int l1, .int x63]) (st' := []) (r1 := some x74) rfl rfl ((f_X7_takes_ok hc72).up (by decide)) ?_
                refine q_go 3 (pc' := 25) (ls' := [.ref 96, .int (l1 + (1 : Int32)), .int x63]) (st' := []) (V' := V73) rfl ?_
                exact ih (l1 + (1 : Int32)) V73 (.int x63) h
              · rw [if_neg hc68] at h
                refine q_icmp rfl (fun _ => ?_) (fun c => absurd hc68 (of_decide_eq_false c))
                refine q_go 1 (pc' := 90) (ls' := [.ref 96, .int l1, .int x63]) (st' := [.int (0 : Int32), .ref 96]) (V' := V65) rfl ?_
                obtain ⟨x71, V70, hc69, h⟩ := x_b2_eq h
                refine q_call (d := (5)) (as := [.ref 96, .int (0 : Int32)]) (pc' := 93) (ls' := [.ref 96, .int l1, .int x63]) (st' := []) (r1 := some x71) rfl rfl ((f_X7_takes_ok hc69).up (by decide)) ?_
                refine q_go 3 (pc' := 25) (ls' := [.ref 96, .int (l1 + (1 : Int32)), .int x63]) (st' := []) (V' := V70) rfl ?_
                exact ih (l1 + (1 : Int32)) V70 (.int x63) h
            · rw [if_neg hc67] at h
              refine q_if rfl (fun c => absurd (of_decide_eq_true c) hc67) (fun _ => ?_)
              refine q_go 2 (pc' := 73) (ls' := [.ref 96, .int l1, .int x63]) (st' := [.int x63, .ref 96]) (V' := V65) rfl ?_
              obtain ⟨V76, hc75, h⟩ := x_b1_eq h
              refine q_call (d := (5)) (as := [.ref 96, .int x63]) (pc' := 76) (ls' := [.ref 96, .int l1, .int x63]) (st' := []) (r1 := none) rfl rfl ((f_X7_readsItem_ok hc75).up (by decide)) ?_
              refine q_go 4 (pc' := 82) (ls' := [.ref 96, .int l1, .int x63]) (st' := [.int (3 : Int32), .int (V76 96 4), .ref 96]) (V' := V76) rfl ?_
              by_cases hc77 : (V76 96 4) = (3 : Int32)
              · rw [if_pos hc77] at h
                refine q_icmp rfl (fun c => absurd hc77 (of_decide_eq_true c)) (fun _ => ?_)
                refine q_go 2 (pc' := 90) (ls' := [.ref 96, .int l1, .int x63]) (st' := [.int (1 : Int32), .ref 96]) (V' := V76) rfl ?_
                obtain ⟨x83, V82, hc81, h⟩ := x_b2_eq h
                refine q_call (d := (5)) (as := [.ref 96, .int (1 : Int32)]) (pc' := 93) (ls' := [.ref 96, .int l1, .int x63]) (st' := []) (r1 := some x83) rfl rfl ((f_X7_takes_ok hc81).up (by decide)) ?_
                refine q_go 3 (pc' := 25) (ls' := [.ref 96, .int (l1 + (1 : Int32)), .int x63]) (st' := []) (V' := V82) rfl ?_
                exact ih (l1 + (1 : Int32)) V82 (.int x63) h
              · rw [if_neg hc77] at h
                refine q_icmp rfl (fun _ => ?_) (fun c => absurd hc77 (of_decide_eq_false c))
                refine q_go 1 (pc' := 90) (ls' := [.ref 96, .int l1, .int x63]) (st' := [.int (0 : Int32), .ref 96]) (V' := V76) rfl ?_
                obtain ⟨x80, V79, hc78, h⟩ := x_b2_eq h
                refine q_call (d := (5)) (as := [.ref 96, .int (0 : Int32)]) (pc' := 93) (ls' := [.ref 96, .int l1, .int x63]) (st' := []) (r1 := some x80) rfl rfl ((f_X7_takes_ok hc78).up (by decide)) ?_
                refine q_go 3 (pc' := 25) (ls' := [.ref 96, .int (l1 + (1 : Int32)), .int x63]) (st' := []) (V' := V79) rfl ?_
                exact ih (l1 + (1 : Int32)) V79 (.int x63) h
        · rw [if_neg hc10] at h
          refine q_icmp rfl (fun _ => ?_) (fun c => absurd hc10 (of_decide_eq_false c))
          refine q_go 1 (pc' := 60) (ls' := [.ref 96, .int l1, g2]) (st' := [.int (0 : Int32), .ref 96]) (V' := V6) rfl ?_
          obtain ⟨x13, V12, hc11, h⟩ := x_b2_eq h
          refine q_call (d := (5)) (as := [.ref 96, .int (0 : Int32)]) (pc' := 63) (ls' := [.ref 96, .int l1, g2]) (st' := []) (r1 := some x13) rfl rfl ((f_X7_takes_ok hc11).up (by decide)) ?_
          refine q_go 2 (pc' := 65) (ls' := [.ref 96, .int l1, .int x13]) (st' := [.ref 96]) (V' := V12) rfl ?_
          obtain ⟨x16, V15, hc14, h⟩ := x_b2_eq h
          refine q_call (d := (5)) (as := [.ref 96]) (pc' := 68) (ls' := [.ref 96, .int l1, .int x13]) (st' := []) (r1 := some x16) rfl rfl ((f_X7_isWell_ok hc14).up (by decide)) ?_
          by_cases hc17 : x16 = 0
          · rw [if_pos hc17] at h
            refine q_if rfl (fun _ => ?_) (fun c => absurd hc17 (of_decide_eq_false c))
            refine q_go 4 (pc' := 82) (ls' := [.ref 96, .int l1, .int x13]) (st' := [.int (3 : Int32), .int (V15 96 4), .ref 96]) (V' := V15) rfl ?_
            by_cases hc18 : (V15 96 4) = (3 : Int32)
            · rw [if_pos hc18] at h
              refine q_icmp rfl (fun c => absurd hc18 (of_decide_eq_true c)) (fun _ => ?_)
              refine q_go 2 (pc' := 90) (ls' := [.ref 96, .int l1, .int x13]) (st' := [.int (1 : Int32), .ref 96]) (V' := V15) rfl ?_
              obtain ⟨x24, V23, hc22, h⟩ := x_b2_eq h
              refine q_call (d := (5)) (as := [.ref 96, .int (1 : Int32)]) (pc' := 93) (ls' := [.ref 96, .int l1, .int x13]) (st' := []) (r1 := some x24) rfl rfl ((f_X7_takes_ok hc22).up (by decide)) ?_
              refine q_go 3 (pc' := 25) (ls' := [.ref 96, .int (l1 + (1 : Int32)), .int x13]) (st' := []) (V' := V23) rfl ?_
              exact ih (l1 + (1 : Int32)) V23 (.int x13) h
            · rw [if_neg hc18] at h
              refine q_icmp rfl (fun _ => ?_) (fun c => absurd hc18 (of_decide_eq_false c))
              refine q_go 1 (pc' := 90) (ls' := [.ref 96, .int l1, .int x13]) (st' := [.int (0 : Int32), .ref 96]) (V' := V15) rfl ?_
              obtain ⟨x21, V20, hc19, h⟩ := x_b2_eq h
              refine q_call (d := (5)) (as := [.ref 96, .int (0 : Int32)]) (pc' := 93) (ls' := [.ref 96, .int l1, .int x13]) (st' := []) (r1 := some x21) rfl rfl ((f_X7_takes_ok hc19).up (by decide)) ?_
              refine q_go 3 (pc' := 25) (ls' := [.ref 96, .int (l1 + (1 : Int32)), .int x13]) (st' := []) (V' := V20) rfl ?_
              exact ih (l1 + (1 : Int32)) V20 (.int x13) h
          · rw [if_neg hc17] at h
            refine q_if rfl (fun c => absurd (of_decide_eq_true c) hc17) (fun _ => ?_)
            refine q_go 2 (pc' := 73) (ls' := [.ref 96, .int l1, .int x13]) (st' := [.int x13, .ref 96]) (V' := V15) rfl ?_
            obtain ⟨V26, hc25, h⟩ := x_b1_eq h
            refine q_call (d := (5)) (as := [.ref 96, .int x13]) (pc' := 76) (ls' := [.ref 96, .int l1, .int x13]) (st' := []) (r1 := none) rfl rfl ((f_X7_readsItem_ok hc25).up (by decide)) ?_
            refine q_go 4 (pc' := 82) (ls' := [.ref 96, .int l1, .int x13]) (st' := [.int (3 : Int32), .int (V26 96 4), .ref 96]) (V' := V26) rfl ?_
            by_cases hc27 : (V26 96 4) = (3 : Int32)
            · rw [if_pos hc27] at h
              refine q_icmp rfl (fun c => absurd hc27 (of_decide_eq_true c)) (fun _ => ?_)
              refine q_go 2 (pc' := 90) (ls' := [.ref 96, .int l1, .int x13]) (st' := [.int (1 : Int32), .ref 96]) (V' := V26) rfl ?_
              obtain ⟨x33, V32, hc31, h⟩ := x_b2_eq h
              refine q_call (d := (5)) (as := [.ref 96, .int (1 : Int32)]) (pc' := 93) (ls' := [.ref 96, .int l1, .int x13]) (st' := []) (r1 := some x33) rfl rfl ((f_X7_takes_ok hc31).up (by decide)) ?_
              refine q_go 3 (pc' := 25) (ls' := [.ref 96, .int (l1 + (1 : Int32)), .int x13]) (st' := []) (V' := V32) rfl ?_
              exact ih (l1 + (1 : Int32)) V32 (.int x13) h
            · rw [if_neg hc27] at h
              refine q_icmp rfl (fun _ => ?_) (fun c => absurd hc27 (of_decide_eq_false c))
              refine q_go 1 (pc' := 90) (ls' := [.ref 96, .int l1, .int x13]) (st' := [.int (0 : Int32), .ref 96]) (V' := V26) rfl ?_
              obtain ⟨x30, V29, hc28, h⟩ := x_b2_eq h
              refine q_call (d := (5)) (as := [.ref 96, .int (0 : Int32)]) (pc' := 93) (ls' := [.ref 96, .int l1, .int x13]) (st' := []) (r1 := some x30) rfl rfl ((f_X7_takes_ok hc28).up (by decide)) ?_
              refine q_go 3 (pc' := 25) (ls' := [.ref 96, .int (l1 + (1 : Int32)), .int x13]) (st' := []) (V' := V29) rfl ?_
              exact ih (l1 + (1 : Int32)) V29 (.int x13) h
def f_X7_house (V : xV) : Option (Int32 × xV) := x_b1 (f_X7_begins (x_up (x_up (x_up V 96 0 (0 : Int32)) 96 7 (-1 : Int32)) 96 3 (0 : Int32))) (fun V2 => x_b1 (f_X7_advances V2) (fun V4 => f_X7_house_L25 300 (fun l1_84 V85 => x_b2 (f_X7_isWell V85) (fun x89 V88 => if x89 = 0 then (some (((-10 : Int32) - (V88 96 7)), V88)) else (x_b1 (f_X7_settles V88) (fun V92 => some (l1_84, V92))))) (0 : Int32) V4))
theorem f_X7_house_ok {V W : xV} {x : Int32} (h : f_X7_house V = some (x, W)) : x_Rn (6) 110 [.ref 96] V (some x) W := by
  refine ⟨3, kX7_house, rfl, ?_⟩
  show x_Ex (6) kX7_house 0 [.ref 96, .long 0, .long 0] [] V (some x) W
  unfold f_X7_house at h
  refine q_go 10 (pc' := 16) (ls' := [.ref 96, .long 0, .long 0]) (st' := [.ref 96]) (V' := (x_up (x_up (x_up V 96 0 (0 : Int32)) 96 7 (-1 : Int32)) 96 3 (0 : Int32))) rfl ?_
  obtain ⟨V2, hc1, h⟩ := x_b1_eq h
  refine q_call (d := (5)) (as := [.ref 96]) (pc' := 19) (ls' := [.ref 96, .long 0, .long 0]) (st' := []) (r1 := none) rfl rfl ((f_X7_begins_ok hc1).up (by decide)) ?_
  refine q_go 3 (pc' := 22) (ls' := [.ref 96, .int (0 : Int32), .long 0]) (st' := [.ref 96]) (V' := V2) rfl ?_
  obtain ⟨V4, hc3, h⟩ := x_b1_eq h
  refine q_call (d := (5)) (as := [.ref 96]) (pc' := 25) (ls' := [.ref 96, .int (0 : Int32), .long 0]) (st' := []) (r1 := none) rfl rfl ((f_X7_advances_ok hc3).up (by decide)) ?_
  refine f_X7_house_L25_ok (fun l1_84 V85 g2_86 h => ?_) 300 (0 : Int32) V4 (.long 0) h
  refine q_go 1 (pc' := 101) (ls' := [.ref 96, .int l1_84, g2_86]) (st' := [.ref 96]) (V' := V85) rfl ?_
  obtain ⟨x89, V88, hc87, h⟩ := x_b2_eq h
  refine q_call (d := (5)) (as := [.ref 96]) (pc' := 104) (ls' := [.ref 96, .int l1_84, g2_86]) (st' := []) (r1 := some x89) rfl rfl ((f_X7_isWell_ok hc87).up (by decide)) ?_
  by_cases hc90 : x89 = 0
  · rw [if_pos hc90] at h
    refine q_if rfl (fun c => absurd hc90 (of_decide_eq_true c)) (fun _ => ?_)
    refine q_go 4 (pc' := 114) (ls' := [.ref 96, .int l1_84, g2_86]) (st' := [.int ((-10 : Int32) - (V88 96 7))]) (V' := V88) rfl ?_
    obtain ⟨rfl, rfl⟩ := x_p2 h
    exact q_ret rfl rfl
  · rw [if_neg hc90] at h
    refine q_if rfl (fun _ => ?_) (fun c => absurd hc90 (of_decide_eq_false c))
    refine q_go 1 (pc' := 116) (ls' := [.ref 96, .int l1_84, g2_86]) (st' := [.ref 96]) (V' := V88) rfl ?_
    obtain ⟨V92, hc91, h⟩ := x_b1_eq h
    refine q_call (d := (5)) (as := [.ref 96]) (pc' := 119) (ls' := [.ref 96, .int l1_84, g2_86]) (st' := []) (r1 := none) rfl rfl ((f_X7_settles_ok hc91).up (by decide)) ?_
    refine q_go 1 (pc' := 120) (ls' := [.ref 96, .int l1_84, g2_86]) (st' := [.int l1_84]) (V' := V92) rfl ?_
    obtain ⟨rfl, rfl⟩ := x_p2 h
    exact q_ret rfl rfl
