section WholeOf
variable {p : Program} {e : Env} {s : State} {m : MethodId} {below : List Frame} {meth : Method} {c : Code}
theorem x_S0_len : x_S0.length = 112 := by decide +kernel
theorem x_S0_sl (V : xV) : x_sl (x_S0, V) ≤ 3000 := by
  have h : (x_S0.map x_slots).sum ≤ 3000 := by decide +kernel
  exact h
theorem x_K_start {args : Array Value} (htb : ∀ w ∈ x_tb, w.before args s = true) (hao : va_AO RX4 s) : ∃ (D : va_G) (cI cZ cO : ClassId), va_K D x_cl [(cI, .int), (cZ, .boolean), (cO, .object RX4)] s := by
  have h1 : ∀ ci, ∃ q : ClassId × (Nat → Nat), ci < 8 → u_Kn s (x_C ci).1 (x_C ci).2.1 (x_C ci).2.2 q.1 q.2 := by
    intro ci
    by_cases h8 : ci < 8
    · have hn := List.all_eq_true.mp x_new_ok ci (List.mem_range.mpr h8)
      simp only [Bool.and_eq_true, decide_eq_true_eq] at hn
      obtain ⟨cC, iS, h⟩ := u_known (C := (x_C ci).1) (T := (x_C ci).2.1) (N := (x_C ci).2.2) htb (x_in_ok ci h8) (htb _ (x_ok1_in hn.1.1))
      exact ⟨(cC, iS), fun _ => h⟩
    · exact ⟨(0, fun _ => 0), fun z => absurd z h8⟩
  obtain ⟨f, hf⟩ := Classical.axiomOfChoice h1
  have hA : ∀ ty, (Cond.arrayClass ty).before args s = true → (∀ C, ty ≠ .object C) → ∃ cA, ArrOfT s cA ty ∧ va_RA s cA ty := by
    intro ty h hno
    obtain ⟨cA, kA, comp, hfind, hk, hkind⟩ := Cond.arrayClass_spec h
    refine ⟨cA, fun n z => ⟨fun k h => (by cases h), kA, hk, comp, hkind⟩, ?_⟩
    cases ty with
    | object C => exact absurd rfl (hno C)
    | _ => exact hfind
  obtain ⟨cI, i1, i2⟩ := hA .int (htb _ (x_ok1_in x_arr_ok.1)) (fun C q => by cases q)
  obtain ⟨cZ, z1, z2⟩ := hA .boolean (htb _ (x_ok1_in x_arr_ok.2)) (fun C q => by cases q)
  obtain ⟨comp, cO, kO, o1, -, o2, o3, o4⟩ := Cond.arrayOver_spec hao
  refine ⟨(fun ci => (f ci).1, fun ci => (f ci).2), cI, cZ, cO, fun ci q hq => ?_, fun k q hq => ?_⟩
  · have h8 : ci < 8 := (List.getElem?_eq_some_iff.mp hq).1
    rw [x_cl_at ci h8] at hq
    cases hq
    exact hf ci h8
  · match k, hq with
    | 0, hq => cases hq; exact ⟨i1, i2⟩
    | 1, hq => cases hq; exact ⟨z1, z2⟩
    | 2, hq =>
      cases hq
      exact ⟨fun n z => ⟨fun k h => (by cases h), kO, o2, comp, o3⟩, kO, comp, o2, o3, o1, o4⟩
    | k + 3, hq => simp at hq
set_option maxHeartbeats 4000000 in
set_option maxRecDepth 100000 in
theorem whole_of {Sim : xV → Prop} (hinit : x_Init Sim) (hstep : x_Steps Sim) (l : Launch) {b L : Nat} {xs : Nat → Int32} (hL : L ≤ 2048) (C0 : lw_At p s m meth c b L xs) : W p l e room_1 s m #[Value.ref b] below meth c s.heap [] 0 0 (lw_Z below #[Value.ref b] s) (entryFrame m ([Value.ref b] : List Value).toArray 4) := by
  obtain ⟨hx, hb, hr, hml, hown, hts, hXs, hbl, hlocks, hgv⟩ := C0
  obtain ⟨n1, n2, h1, V0, hi1, hi2, hi3, hi4, hSim⟩ := hinit
  have htb : ∀ w ∈ x_tb, w.before #[Value.ref b] s = true := fun w hw => hts w (List.mem_filter.mp hw).1
  have hN : x_Nst s := by
    refine ⟨va_AO.of (hts _ (List.mem_of_getElem? x_nest_ok.2.2)), fun q hq => ?_⟩
    simp only [x_NL, List.mem_cons, List.not_mem_nil, or_false] at hq
    rcases hq with rfl | rfl
    · exact va_Nw.of rfl (hts _ (List.mem_of_getElem? x_nest_ok.1))
    · exact va_Nw.of rfl (hts _ (List.mem_of_getElem? x_nest_ok.2.1))
  have hX : x_LX p s m b c (fun q => s.heap.size ≤ q) := ⟨hx, hb, hml, hown, htb, hN, fun _ h => h⟩
  obtain ⟨D, cI, cZ, cO, hK⟩ := x_K_start htb hN.1
  have hI0 : x_I D cI cZ cO (fun q => s.heap.size ≤ q) s s.heap [] (fun _ => 0) ([], fun _ _ => 0) := ⟨hK, fun k q h => by simp [x_W] at h, ⟨fun i j p q h => by simp [x_W] at h, fun k q h => by simp [x_W] at h⟩, va_S.rf⟩
  have m1 := x_ex_mono _ _ _ _ _ _ _ _ _ hi1
  have m2 := x_ex_mono _ _ _ _ _ _ _ _ _ hi4
  have s1 : x_sl (x_push [] (fun _ _ => 0) (0, 6, List.replicate 11 none)) = 11 := rfl
  have s2 : x_sl (x_push h1.1 h1.2 (0, 7, List.replicate 34 none)) = x_sl h1 + 34 := by rw [x_sl_push]; rfl
  have s3 := x_S0_sl V0
  have l1 : (x_push [] (fun _ _ => 0) (0, 6, List.replicate 11 none)).1.length = 1 := rfl
  have l2 : (x_push h1.1 h1.2 (0, 7, List.replicate 34 none)).1.length = 97 := by simp [x_push, hi2]
  have l3 : ((x_S0, V0) : xH).1.length = 112 := x_S0_len
  rw [s1] at m1
  rw [s2] at m2
  have hl := lv_entry ([.ref b]) (n := 4) (Nat.le_of_ble_eq_true rfl)
  rw [lg_entry_eq]
  generalize (lg_sl ([.ref b]) ++ List.replicate (4 - (lg_sl ([.ref b])).length) Slot.unset).toArray = ls at hl ⊢
  have hl : lv_has ls 4 [(0, .ref b)] := hl
  refine law_new (a := 6) hX hI0 (by decide) (by decide) (by decide) rfl (x_ok1_in x_LK_ok.1) d_law_0 (fun z H1 hI1 => ?_)
  obtain ⟨ad1, had1⟩ : ∃ ad1, ad1 = x_adp (fun _ => 0) (([], fun _ _ => 0) : xH).1.length z := ⟨_, rfl⟩
  rw [← had1] at hI1
  have hz : ad1 0 = z := by rw [had1]; rfl
  clear had1
  subst hz
  refine lv_dup hx hb d_law_3 rfl ?_
  refine law_call (i := 66) (q2 := nX6_init) (idx := 9) (x := 0) (as2 := []) (n := n1) (rf := List.replicate 11 none) (h' := h1) hX hI1 rfl (by decide) rfl (by decide) rfl (Or.inr ⟨rfl, d_law_4⟩) (Nat.le_refl 100) (r := none) hi1 hl.1 (show (1 : Nat) + 0 ≤ 8 by decide) ⟨by rw [hi2]; decide, by show 0 + 11 + (x_sl h1 - 11) ≤ _; omega⟩ (fun H2 locs2 ad2 ha2 hI2 => ?_)
  have e2 : ad2 0 = ad1 0 := ha2.2.1 0 (by decide)
  rw [← e2]
  refine lv_astore_n (lv' := [(1, .ref (ad2 0)), (0, .ref b)]) hx hb d_law_7 rfl hl (by decide) rfl (fun ls hl => ?_)
  refine law_new (a := 7) hX hI2 (by decide) (by rw [hi2]; decide) (by show 0 + 11 + (x_sl h1 - 11) + 34 ≤ _; omega) hi3 (x_ok1_in x_LK_ok.2) d_law_8 (fun z H3 hI3 => ?_)
  obtain ⟨ad3, had3⟩ : ∃ ad3, ad3 = x_adp ad2 h1.1.length z := ⟨_, rfl⟩
  rw [← had3] at hI3
  have hz : ad3 96 = z := by rw [had3, hi2]; rfl
  have hz0 : ad3 0 = ad2 0 := by rw [had3, hi2]; rfl
  clear had3
  subst hz
  rw [← hz0] at hl
  refine lv_dup hx hb d_law_11 rfl ?_
  refine law_call (i := 96) (q2 := nX7_init) (idx := 12) (x := 96) (as2 := []) (n := n2) (rf := List.replicate 34 none) (h' := (x_S0, V0)) hX hI3 rfl (by decide) (by show (h1.1 ++ [_])[96]? = _; rw [← hi2, List.getElem?_append_right (Nat.le_refl _), Nat.sub_self]; rfl) (by decide) rfl (Or.inr ⟨rfl, d_law_12⟩) (Nat.le_refl 100) (r := none) hi4 hl.1 (show (1 : Nat) + 0 ≤ 8 by decide) ⟨by rw [hi2, l3]; show 0 + 1 + (96 - 1) + 1 + (112 - _) ≤ _; omega, by show 0 + 11 + (x_sl h1 - 11) + 34 + (x_sl (x_S0, V0) - x_sl (x_push h1.1 h1.2 (0, 7, List.replicate 34 none))) ≤ _; omega⟩ (fun H4 locs4 ad4 ha4 hI4 => ?_)
  have e4 : ad4 96 = ad3 96 := ha4.2.1 96 (by show 96 < (x_push h1.1 h1.2 (0, 7, List.replicate 34 none)).1.length; omega)
  have e40 : ad4 0 = ad3 0 := ha4.2.1 0 (by show 0 < (x_push h1.1 h1.2 (0, 7, List.replicate 34 none)).1.length; omega)
  rw [← e4]
  rw [← e40] at hl
  refine lv_astore_n (lv' := [(2, .ref (ad4 96)), (1, .ref (ad4 0)), (0, .ref b)]) hx hb d_law_15 rfl hl (by decide) rfl (fun ls hl => ?_)
  refine lv_iconst (v := 0) hx hb d_law_16 rfl ?_
  refine lv_istore_n (lv' := [(3, .int 0), (2, .ref (ad4 96)), (1, .ref (ad4 0)), (0, .ref b)]) hx hb d_law_17 rfl hl (by decide) rfl (fun ls hl => ?_)
  refine lw_loop hstep hX hr hlocks hXs hbl hL ?_ ?_ (L + 1) 0 V0 H4 locs4 ls (by omega) (by omega) (by omega) hSim hI4 (lv_sub hl [3, 2, 1, 0] rfl)
  · rw [hi2, l3]; show 0 + 1 + (96 - 1) + 1 + (112 - _) ≤ _; omega
  · show 0 + 11 + (x_sl h1 - 11) + 34 + (x_sl (x_S0, V0) - x_sl (x_push h1.1 h1.2 (0, 7, List.replicate 34 none))) ≤ _
    omega
end WholeOf
