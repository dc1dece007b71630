/-! THE LAW, over pure runs -/
def x_Ex (d : Nat) (code : List xE) (pc : Nat) (ls st : List Value) (V : xV) (r : Option Int32) (V' : xV) : Prop := ∃ n, x_ex x_nf x_sws x_mt n d code pc ls st (x_S0, V) = some (r, (x_S0, V'))
def x_Rn (d i : Nat) (as : List Value) (V : xV) (r : Option Int32) (V' : xV) : Prop := ∃ (nl : Nat) (code : List xE), x_mt[i]? = some (nl, code) ∧ x_Ex d code 0 (as ++ List.replicate (nl - as.length) (.long 0)) [] V r V'
/-- the cases: first pc, how many numbers, index and method of the class, of the reference -/
def x_lc : List (Nat × Nat × Nat × Nat × Nat × Nat) := [(144, 1, 13, 67, 17, 99), (167, 0, 18, 68, 22, 100), (180, 0, 23, 69, 26, 110), (193, 2, 27, 70, 31, 115), (226, 1, 32, 71, 35, 116), (249, 2, 36, 72, 39, 117), (282, 3, 40, 73, 44, 119), (325, 3, 45, 74, 48, 120), (368, 2, 49, 75, 52, 121), (401, 1, 53, 76, 56, 122), (424, 0, 57, 77, 60, 123), (437, 2, 61, 78, 64, 131), (470, 1, 65, 79, 68, 132), (493, 2, 69, 80, 72, 134), (526, 1, 73, 81, 76, 135), (549, 1, 77, 82, 80, 137), (572, 0, 81, 83, 84, 138), (585, 1, 85, 84, 88, 140), (608, 1, 89, 85, 92, 141), (631, 0, 93, 86, 96, 142), (644, 0, 97, 87, 100, 143), (657, 1, 101, 88, 104, 144), (680, 1, 105, 89, 108, 145), (703, 1, 109, 90, 112, 146)]
def lw_ck : List Nat → Nat → Bool
  | [], _ => true
  | j :: r, pc => decide (decode code pc = .ok (.aload_n 0, 1)) && decide (decode code (pc + 1) = .ok (.iload_n 3, 1)) && decide (decode code (pc + 2) = .ok (.iconst (j : Int), 1)) && decide (decode code (pc + 3) = .ok (.iadd, 1)) && decide (decode code (pc + 4) = .ok (.iaload, 1)) && lw_ck r (pc + 5)
def lw_js (n : Nat) : List Nat := [1, 2, 3].take n
def lw_cs (q : Nat × Nat × Nat × Nat × Nat × Nat) : Bool := decide (decode code q.1 = .ok (.aload_n 1, 1)) && lw_ck (lw_js q.2.1) (q.1 + 1) && decide (decode code (q.1 + 1 + 5 * q.2.1) = .ok (.invokevirtual q.2.2.1, 3)) && decide (decode code (q.1 + 4 + 5 * q.2.1) = .ok (.aload_n 2, 1)) && lw_ck (lw_js q.2.1) (q.1 + 5 + 5 * q.2.1) && decide (decode code (q.1 + 5 + 10 * q.2.1) = .ok (.invokevirtual q.2.2.2.2.1, 3)) && decide (decode code (q.1 + 8 + 10 * q.2.1) = .ok (.if_icmp .eq (726 - (q.1 + 8 + 10 * q.2.1 : Int)), 3)) && decide (q.2.1 ≤ 3) &&
  x_LL.any (fun z => z.1 == q.2.2.1 && z.2.1 == q.2.2.2.1) && x_LL.any (fun z => z.1 == q.2.2.2.2.1 && z.2.1 == q.2.2.2.2.2) && (x_inf[q.2.2.2.1]?).any (fun z => z.2.2.2.2.1 == 1 && z.2.2.2.2.2.1 == 6 && z.2.2.2.2.2.2.1 == q.2.1) && (x_inf[q.2.2.2.2.2]?).any (fun z => z.2.2.2.2.1 == 1 && z.2.2.2.2.2.1 == 7 && z.2.2.2.2.2.2.1 == q.2.1)
theorem x_lc_ok : x_lc.all lw_cs = true := by decide +kernel
def lw_offs : Array Int := #[112, 135, 148, 161, 194, 217, 250, 293, 336, 369, 392, 405, 438, 461, 494, 517, 540, 553, 576, 599, 612, 625, 648, 671]
theorem d_law_32 : decode code 32 = .ok (.tableswitch 694 0 23 lw_offs, 112) := by decide +kernel
theorem lw_offs_ok : ∀ k, k < 24 → ∃ q, x_lc[k]? = some q ∧ lw_offs[k]? = some ((q.1 : Int) - 32) := by
  have h : (List.range 24).all (fun k => match x_lc[k]? with
    | some q => decide (lw_offs[k]? = some ((q.1 : Int) - 32))
    | none => false) = true := by decide +kernel
  intro k hk
  have h1 := List.all_eq_true.mp h k (List.mem_range.mpr hk)
  cases hq : x_lc[k]? with
  | none => rw [hq] at h1; cases h1
  | some q =>
    rw [hq] at h1
    exact ⟨q, rfl, by simpa using h1⟩
theorem d_law_0 : decode code 0 = .ok (.new 7, 3) := by decide +kernel
theorem d_law_3 : decode code 3 = .ok (.dup, 1) := by decide +kernel
theorem d_law_4 : decode code 4 = .ok (.invokespecial 9, 3) := by decide +kernel
theorem d_law_7 : decode code 7 = .ok (.astore_n 1, 1) := by decide +kernel
theorem d_law_8 : decode code 8 = .ok (.new 10, 3) := by decide +kernel
theorem d_law_11 : decode code 11 = .ok (.dup, 1) := by decide +kernel
theorem d_law_12 : decode code 12 = .ok (.invokespecial 12, 3) := by decide +kernel
theorem d_law_15 : decode code 15 = .ok (.astore_n 2, 1) := by decide +kernel
theorem d_law_16 : decode code 16 = .ok (.iconst 0, 1) := by decide +kernel
theorem d_law_17 : decode code 17 = .ok (.istore_n 3, 1) := by decide +kernel
theorem d_law_18 : decode code 18 = .ok (.iload_n 3, 1) := by decide +kernel
theorem d_law_19 : decode code 19 = .ok (.aload_n 0, 1) := by decide +kernel
theorem d_law_20 : decode code 20 = .ok (.arraylength, 1) := by decide +kernel
theorem d_law_21 : decode code 21 = .ok (.iconst 4, 1) := by decide +kernel
theorem d_law_22 : decode code 22 = .ok (.isub, 1) := by decide +kernel
theorem d_law_23 : decode code 23 = .ok (.if_icmp .gt 709, 3) := by decide +kernel
theorem d_law_26 : decode code 26 = .ok (.aload_n 0, 1) := by decide +kernel
theorem d_law_27 : decode code 27 = .ok (.iload_n 3, 1) := by decide +kernel
theorem d_law_28 : decode code 28 = .ok (.iaload, 1) := by decide +kernel
theorem d_law_29 : decode code 29 = .ok (.bipush 31, 2) := by decide +kernel
theorem d_law_31 : decode code 31 = .ok (.iand, 1) := by decide +kernel
theorem d_law_726 : decode code 726 = .ok (.iinc 3 4, 3) := by decide +kernel
theorem d_law_729 : decode code 729 = .ok (.goto (-711), 3) := by decide +kernel
theorem d_law_732 : decode code 732 = .ok (.iconst 1, 1) := by decide +kernel
theorem d_law_733 : decode code 733 = .ok (.ireturn, 1) := by decide +kernel
theorem lw_and31 (x : Int32) : ∃ k, k < 32 ∧ x &&& 31 = nI k := by
  refine ⟨x.toBitVec.toNat % 32, Nat.mod_lt _ (by decide), ?_⟩
  apply Int32.toBitVec_inj.mp
  show x.toBitVec &&& 31#32 = BitVec.ofNat 32 (x.toBitVec.toNat % 32)
  apply BitVec.eq_of_toNat_eq
  have h1 : x.toBitVec.toNat &&& 31 = x.toBitVec.toNat % 32 := Nat.and_two_pow_sub_one_eq_mod _ 5
  have h2 : x.toBitVec.toNat % 32 < 32 := Nat.mod_lt _ (by decide)
  have h3 : (31#32).toNat = 31 := rfl
  rw [BitVec.toNat_and, h3, h1, BitVec.toNat_ofNat]
  omega
section LawLoop
variable {p : Program} {l : Launch} {e : Env} {s : State} {m : MethodId} {b L : Nat} {xs : Nat → Int32} {below : List Frame} {meth : Method} {c : Code} {Q : State → Prop} {D : va_G} {cI cZ cO : ClassId} {H : Heap} {locs : List Loc} {cells slots : Nat} {ad : Nat → Nat} {lsR : Array Slot} {pc t : Nat} {rest : List Value}
theorem lw_args (hx : p.tables.exec = Jvm.exec) (hb : c.code = code) (hXs : va_X b L xs s s.heap) (hbl : b < s.heap.size) (hS : va_S (fun q => s.heap.size ≤ q) s.heap H locs) (hl : lv_has lsR 4 [(0, .ref b), (1, .ref (ad 0)), (2, .ref (ad 96)), (3, .int (nI (4 * t)))]) (hL : L ≤ 2048) (ht : 4 * t + 4 ≤ L) : ∀ (js : List Nat) (pc : Nat) (rest : List Value), lw_ck js pc = true → (∀ j ∈ js, j < 4) →
    W p l e room_1 s m #[Value.ref b] below meth c H locs cells slots Q (F0 m (pc + 5 * js.length) lsR ((js.map (fun j => Value.int (xs (4 * t + j)))).reverse ++ rest)) → W p l e room_1 s m #[Value.ref b] below meth c H locs cells slots Q (F0 m pc lsR rest) := by
  intro js
  induction js with
  | nil => intro pc rest _ _ k; exact k
  | cons j r ih =>
    intro pc rest hck hj k
    simp only [lw_ck, Bool.and_eq_true, decide_eq_true_eq] at hck
    obtain ⟨⟨⟨⟨⟨h0, h1⟩, h2⟩, h3⟩, h4⟩, h5⟩ := hck
    have hj4 := hj j List.mem_cons_self
    refine lv_aload_n hx hb h0 rfl (lv_at hl 0 rfl) ?_
    refine lv_iload_n hx hb h1 rfl (lv_at hl 3 rfl) ?_
    refine lv_iconst hx hb h2 rfl ?_
    refine lv_iadd hx hb h3 ?_
    have e1 : nI (4 * t) + Int32.ofInt (j : Int) = nI (4 * t + j) := by
      rw [show Int32.ofInt (j : Int) = nI j from rfl, nI_add]
    rw [e1]
    refine va_sld hx hb hXs hbl (by simpa using hbl) hS (vp_in_nI (by omega) (by omega)) h4 ?_
    rw [nI_clamp (by omega)]
    refine ih (pc + 5) _ h5 (fun a ha => hj a (List.mem_cons_of_mem _ ha)) ?_
    have e2 : pc + 5 + 5 * r.length = pc + 5 * (j :: r).length := by rw [List.length_cons]; omega
    rw [e2]
    have e3 : (r.map (fun j => Value.int (xs (4 * t + j)))).reverse ++ Value.int (xs (4 * t + j)) :: rest = ((j :: r).map (fun j => Value.int (xs (4 * t + j)))).reverse ++ rest := by simp
    rw [e3]
    exact k
set_option maxHeartbeats 4000000 in
set_option maxRecDepth 100000 in
theorem lw_case (hX : x_LX p s m b c (fun q => s.heap.size ≤ q)) (hXs : va_X b L xs s s.heap) (hbl : b < s.heap.size) (hL : L ≤ 2048) (ht : 4 * t + 4 ≤ L) {k : Nat} {q : Nat × Nat × Nat × Nat × Nat × Nat} (hq : x_lc[k]? = some q) (hc : cells ≤ 600000) (hs : slots ≤ 7302250) {V V1 V2 : xV} {r : Int32} (hr1 : x_Rn 100 q.2.2.2.1 (.ref 0 :: (lw_js q.2.1).map (fun j => Value.int (xs (4 * t + j)))) V (some r) V1) (hr2 : x_Rn 100 q.2.2.2.2.2 (.ref 96 :: (lw_js q.2.1).map (fun j => Value.int (xs (4 * t + j)))) V1 (some r) V2)
    (hI : x_I D cI cZ cO (fun q => s.heap.size ≤ q) s H locs ad (x_S0, V)) (hl : lv_has lsR 4 [(0, .ref b), (1, .ref (ad 0)), (2, .ref (ad 96)), (3, .int (nI (4 * t)))])
    (kk : ∀ (H1 : Heap) (locs1 : List Loc), x_I D cI cZ cO (fun q => s.heap.size ≤ q) s H1 locs1 ad (x_S0, V2) → W p l e room_1 s m #[Value.ref b] below meth c H1 locs1 cells slots Q (F0 m 726 lsR [])) : W p l e room_1 s m #[Value.ref b] below meth c H locs cells slots Q (F0 m q.1 lsR []) := by
  obtain ⟨pc0, na, ix, iX, im, iM⟩ := q
  have hok := List.all_eq_true.mp x_lc_ok _ (List.mem_of_getElem? hq)
  simp only [lw_cs, Bool.and_eq_true, decide_eq_true_eq] at hok
  obtain ⟨⟨⟨⟨⟨⟨⟨⟨⟨⟨⟨c0, c1⟩, c2⟩, c3⟩, c4⟩, c5⟩, c6⟩, c7⟩, c8⟩, c9⟩, c10⟩, c11⟩ := hok
  have hX' := hX
  obtain ⟨hx, hb, hml, hown, hts, hN, hA⟩ := hX'
  obtain ⟨nl1, code1, hm1, n1, hn1⟩ := hr1
  obtain ⟨nl2, code2, hm2, n2, hn2⟩ := hr2
  obtain ⟨q1, hq1, rfl, rfl⟩ := x_mt_at hm1
  obtain ⟨q2, hq2, rfl, rfl⟩ := x_mt_at hm2
  dsimp only at hq1 hq2 hn1 hn2 ⊢
  rw [hq1] at c10
  rw [hq2] at c11
  simp only [Option.any_some, Bool.and_eq_true, beq_iff_eq] at c10 c11
  have hjs : (lw_js na).length = na := by
    unfold lw_js
    rw [List.length_take]
    exact Nat.min_eq_left c7
  have hj4 : ∀ j ∈ lw_js na, j < 4 := by
    intro j hj
    have := List.mem_of_mem_take hj
    simp at this
    omega
  have hmm : ∀ f : Nat → Int32, (lw_js na).map (fun j => Value.int (f j)) = ((lw_js na).map f).map Value.int := fun f => by simp
  rw [hmm (fun j => xs (4 * t + j)), List.length_cons, List.length_map] at hn1 hn2
  have eS : ∀ V V' : xV, x_sl (x_S0, V) - x_sl (x_S0, V') = 0 := fun V V' => Nat.sub_self (x_sl (x_S0, V))
  have eL : ∀ V V' : xV, ((x_S0, V) : xH).1.length - ((x_S0, V') : xH).1.length = 0 := fun V V' => Nat.sub_self x_S0.length
  refine lv_aload_n hx hb c0 rfl (lv_at hl 1 rfl) ?_
  refine lw_args (t := t) hx hb hXs hbl hI.2.2.2 hl hL ht (lw_js na) _ _ c1 hj4 ?_
  rw [hmm (fun j => xs (4 * t + j)), hjs]
  refine law_call (h' := (x_S0, V1)) (i := iX) (q2 := q1) (rf := [some 1, none, some 2, some 5, some 10, some 19, some 71, none, some 72, none, some 73]) hX hI hq1 c8 (by rw [c10.1.2]; rfl) (by rw [c10.1.2]; decide) (by rw [List.length_map, hjs, c10.2]) (Or.inl ⟨c10.1.1, c2⟩) (Nat.le_refl 100) (n := n1) (r := some r) hn1 hl.1 (by decide) ⟨by rw [eL]; exact hc, by rw [eS]; exact hs⟩ (fun H1 locs1 ad' ha hI1 => ?_)
  have e0 := ha.2.2 rfl
  subst e0
  rw [eL, eS, Nat.add_zero, Nat.add_zero]
  rw [show pc0 + 1 + 5 * na + 3 = pc0 + 4 + 5 * na by omega]
  refine lv_aload_n hx hb c3 rfl (lv_at hl 2 rfl) ?_
  rw [show pc0 + 4 + 5 * na + 1 = pc0 + 5 + 5 * na by omega]
  refine lw_args (t := t) hx hb hXs hbl hI1.2.2.2 hl hL ht (lw_js na) _ _ c4 hj4 ?_
  rw [hmm (fun j => xs (4 * t + j)), hjs, show pc0 + 5 + 5 * na + 5 * na = pc0 + 5 + 10 * na by omega]
  refine law_call (h' := (x_S0, V2)) (i := iM) (q2 := q2) (rf := (x_S0.getD 96 (0, 0, [])).2.2) hX hI1 hq2 c9 (by rw [c11.1.2]; rfl) (by rw [c11.1.2]; decide) (by rw [List.length_map, hjs, c11.2]) (Or.inl ⟨c11.1.1, c5⟩) (Nat.le_refl 100) (n := n2) (r := some r) hn2 hl.1 (show (1 : Nat) + 0 ≤ 8 by decide) ⟨by rw [eL]; exact hc, by rw [eS]; exact hs⟩ (fun H2 locs2 ad' ha hI2 => ?_)
  have e0 := ha.2.2 rfl
  subst e0
  rw [eL, eS, Nat.add_zero, Nat.add_zero]
  rw [show pc0 + 5 + 10 * na + 3 = pc0 + 8 + 10 * na by omega]
  exact lv_icmp_eq hx hb c6 (by omega) (fun _ => kk H2 locs2 hI2) (fun z => absurd rfl z)
end LawLoop
