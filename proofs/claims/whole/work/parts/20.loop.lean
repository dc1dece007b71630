/-- what the pure side owes: the constructors' runs, and each call's -/
def x_Init (Sim : xV → Prop) : Prop := ∃ (n1 n2 : Nat) (h1 : xH) (V0 : xV), x_ex x_nf x_sws x_mt n1 100 kX6_init 0 [.ref 0, .long 0] [] (x_push [] (fun _ _ => 0) (0, 6, List.replicate 11 none)) = some (none, h1) ∧ h1.1.length = 96 ∧ h1.1.all (fun q => q.2.2.all (x_ro h1.1.length)) = true ∧ x_ex x_nf x_sws x_mt n2 100 kX7_init 0 [.ref 96] [] (x_push h1.1 h1.2 (0, 7, List.replicate 34 none)) = some (none, (x_S0, V0)) ∧ Sim V0
def x_Steps (Sim : xV → Prop) : Prop := ∀ (k : Nat) (q : Nat × Nat × Nat × Nat × Nat × Nat), x_lc[k]? = some q → ∀ (f : Nat → Int32) (V : xV), Sim V → ∃ (r : Int32) (V1 V2 : xV), x_Rn 100 q.2.2.2.1 (.ref 0 :: (lw_js q.2.1).map (fun j => Value.int (f j))) V (some r) V1 ∧ x_Rn 100 q.2.2.2.2.2 (.ref 96 :: (lw_js q.2.1).map (fun j => Value.int (f j))) V1 (some r) V2 ∧ Sim V2
section LawLoop2
variable {p : Program} {l : Launch} {e : Env} {s : State} {m : MethodId} {b L : Nat} {xs : Nat → Int32} {below : List Frame} {meth : Method} {c : Code} {D : va_G} {cI cZ cO : ClassId} {ad : Nat → Nat} {cells slots : Nat}
set_option maxHeartbeats 4000000 in
theorem lw_loop {Sim : xV → Prop} (hstep : x_Steps Sim) (hX : x_LX p s m b c (fun q => s.heap.size ≤ q)) (hr : meth.sig.returnType = ret) (hlocks : meth.locks = false) (hXs : va_X b L xs s s.heap) (hbl : b < s.heap.size) (hL : L ≤ 2048) (hc : cells ≤ 600000) (hs : slots ≤ 7302250) : ∀ (n t : Nat) (V : xV) (H : Heap) (locs : List Loc) (lsR : Array Slot), 4 * t < 4 * n + L → L < 4 * (t + n) → 4 * t ≤ L + 3 → Sim V → x_I D cI cZ cO (fun q => s.heap.size ≤ q) s H locs ad (x_S0, V) → lv_has lsR 4 [(0, .ref b), (1, .ref (ad 0)), (2, .ref (ad 96)), (3, .int (nI (4 * t)))] → W p l e room_1 s m #[Value.ref b] below meth c H locs cells slots (lw_Z below #[Value.ref b] s) (F0 m 18 lsR []) := by
  intro n
  induction n with
  | zero => intro t V H locs lsR h1 h2; omega
  | succ n ih =>
    intro t V H locs lsR h1 h2 h3 hV hI hl
    obtain ⟨hx, hb, hml, hown, hts, hN, hA⟩ := id hX
    refine lv_iload_n hx hb d_law_18 rfl (lv_at hl 3 rfl) ?_
    refine lv_aload_n hx hb d_law_19 rfl (lv_at hl 0 rfl) ?_
    refine va_slen hx hb hXs hbl (by simpa using hbl) hI.2.2.2 d_law_20 ?_
    refine lv_iconst hx hb d_law_21 rfl ?_
    refine lv_isub hx hb d_law_22 ?_
    have e4 : (Int32.ofNat L - Int32.ofInt 4).toInt = (L : Int) - 4 := pk_sub_toInt (a := L) (b := 4) (by omega) (by omega)
    have e5 : (nI (4 * t)).toInt = ((4 * t : Nat) : Int) := nI_toInt (by omega)
    refine lv_icmp_gt (tgt := 732) hx hb d_law_23 (by decide) (fun z => ?_) (fun z => ?_)
    · refine lv_iconst (v := 1) hx hb d_law_732 rfl ?_
      refine va_forget (fun q hq => hI.2.2.2.2.2 q hq) ?_
      refine W.widen hc hs ?_
      exact lw_ret hx hb hr hlocks d_law_733
    · have ht : 4 * t + 4 ≤ L := by
        rw [Int32.lt_iff_toInt_lt, e4, e5] at z
        omega
      refine lv_aload_n hx hb d_law_26 rfl (lv_at hl 0 rfl) ?_
      refine lv_iload_n hx hb d_law_27 rfl (lv_at hl 3 rfl) ?_
      refine va_sld hx hb hXs hbl (by simpa using hbl) hI.2.2.2 (vp_in_nI (by omega) (by omega)) d_law_28 ?_
      rw [nI_clamp (by omega)]
      refine lv_bipush (v := 31) hx hb d_law_29 rfl ?_
      refine lv_iand hx hb d_law_31 ?_
      obtain ⟨k, hk, ek⟩ := lw_and31 (xs (4 * t))
      rw [ek]
      have ekI : (nI k).toInt = (k : Int) := nI_toInt (by omega)
      have back : ∀ (V' : xV), Sim V' → ∀ (H1 : Heap) (locs1 : List Loc), x_I D cI cZ cO (fun q => s.heap.size ≤ q) s H1 locs1 ad (x_S0, V') → W p l e room_1 s m #[Value.ref b] below meth c H1 locs1 cells slots (lw_Z below #[Value.ref b] s) (F0 m 726 lsR []) := by
        intro V' hV' H1 locs1 hI1
        refine lv_iinc (v := nI (4 * (t + 1))) (lv' := [(3, .int (nI (4 * (t + 1)))), (0, .ref b), (1, .ref (ad 0)), (2, .ref (ad 96))]) hx hb d_law_726 hl (k := 3) rfl (by rw [show Int32.ofInt 4 = nI 4 from rfl, nI_add]; rfl) (by decide) rfl (fun ls hl => ?_)
        refine lv_goto (tgt := 18) hx hb d_law_729 (by decide) ?_
        exact ih (t + 1) V' H1 locs1 ls (by omega) (by omega) (by omega) hV' hI1 (lv_sub hl [1, 2, 3, 0] rfl)
      by_cases hk2 : k < 24
      · obtain ⟨q, hq, hoff⟩ := lw_offs_ok k hk2
        obtain ⟨r, V1, V2, g1, g2, g3⟩ := hstep k q hq (fun j => xs (4 * t + j)) V hV
        refine lv_tableIn (off := (q.1 : Int) - 32) (tgt := q.1) hx hb d_law_32 (by rw [ekI]; omega) (by rw [ekI]; omega) (by rw [ekI]; simpa using hoff) (by omega) ?_
        exact lw_case hX hXs hbl hL ht hq hc hs g1 g2 hI hl (fun H1 locs1 hI1 => back V2 g3 H1 locs1 hI1)
      · refine lv_tableOut (tgt := 726) hx hb d_law_32 (Or.inr (by rw [ekI]; omega)) (by decide) ?_
        exact back V hV H locs hI
end LawLoop2
