/-! contracts out of pure runs -/
theorem x_tb_good {w : Cond} (h : w ∈ x_tb) : (w.onTables && w.keeps) = true ∨ ∃ ty, w = .arrayClass ty := good_of_word (List.mem_filter.mp h).2
def x_ws (q : xI) : List Cond := .code q.1 q.2.1 q.2.2.1 q.2.2.2.1 :: x_tb
def x_rm (d mc ms : Nat) : Room := { frames := d + 1, cells := mc, slots := ms, locals := 200 * (d + 1) }
def x_Nst (U : State) : Prop := va_AO RX4 U ∧ ∀ q ∈ x_NL, va_Nw (.methodLinkNest (x_N q.1) q.2.1 (x_Y q.2.2.1) RX6) U
theorem x_Nst.blind {U : State} {g : JFrame} {mk : MethodId} {a : Array Value} (h : x_Nst U) : x_Nst (U.calling g mk a) := ⟨va_AO.moved (u := U) (U := U.calling g mk a) (Vm.Alike.refl U.vm) h.1, fun q hq => va_Nw.same rfl (u := U) (U := U.calling g mk a) rfl (h.2 q hq)⟩
theorem x_Nst.warm {s U : State} (hW : s.WarmedH U.vm) (h : x_Nst s) : x_Nst U := ⟨va_AO.moved hW.alike h.1, fun q hq => va_Nw.warmM hW (h.2 q hq)⟩
def x_PB (D : va_G) (cI cZ cO : ClassId) (sz : Nat) (ad : Nat → Nat) (h : xH) (U : State) : Prop := U.heap.size = sz ∧ va_P D x_cl (x_W cI cZ cO ad h) U.heap ∧ va_K D x_cl [(cI, .int), (cZ, .boolean), (cO, .object RX4)] U ∧ va_D (fun _ => True) (x_W cI cZ cO ad h) ∧ x_Nst U
def x_Qc (D : va_G) (cI cZ cO : ClassId) (sz : Nat) (ad : Nat → Nat) (h : xH) (r : Option Int32) (h' : xH) : Array Value → State → Outcome → State → Prop := fun _ st oc t => (oc = .returned (r.map .int) ∧ ∃ ad', x_ad ad h.1.length ad' h'.1.length ∧ va_P D x_cl (x_W cI cZ cO ad' h') t.heap ∧ va_D (va_A (x_W cI cZ cO ad h) sz) (x_W cI cZ cO ad' h')) ∧ va_F (va_A (x_W cI cZ cO ad h) sz) st t
def x_Met (l : Launch) (D : va_G) (cI cZ cO : ClassId) (q : xI) (d : Nat) (as : List Value) (h : xH) (r : Option Int32) (h' : xH) : Prop := ∀ (ad : Nat → Nat) (sz : Nat), Met l q.1 (x_ws q) (x_rm d (h'.1.length - h.1.length) (x_sl h' - x_sl h)) (va_Pc (as.map (x_tr ad)) (x_PB D cI cZ cO sz ad h)) (x_Qc D cI cZ cO sz ad h r h') (h'.1.length - h.1.length) (x_sl h' - x_sl h) (va_A (x_W cI cZ cO ad h) sz)
section Cont
variable {p : Program} {l : Launch} {e : Env} {R : Room} {s : State} {m : MethodId} {args : Array Value} {below : List Frame} {meth : Method} {c : Code} {H : Heap} {locs : List Loc} {cells slots : Nat} {Q : State → Prop}
variable {pc : Nat} {ls : Array Slot} {rest st0 : List Value} {a : Array Value} {A0 : Nat → Prop} {mc ms sz : Nat} {D : va_G} {cI cZ cO : ClassId} {ad : Nat → Nat} {h h' : xH} {r : Option Int32}
theorem x_cont (hr : va_Run p l e R s m args below meth c H locs cells slots mc ms (F0 m pc ls st0) rest (x_Qc D cI cZ cO sz ad h r h' a) (va_A (x_W cI cZ cO ad h) sz)) (hS : va_S A0 s.heap H locs) (hA : ∀ q, va_A (x_W cI cZ cO ad h) sz q → A0 q)
    (kk : ∀ (H1 : Heap) (locs1 : List Loc) (ad' : Nat → Nat), x_ad ad h.1.length ad' h'.1.length → va_P D x_cl (x_W cI cZ cO ad' h') H1 → va_D A0 (x_W cI cZ cO ad' h') → va_S A0 s.heap H1 locs1 → W p l e R s m args below meth c H1 locs1 (cells + mc) (slots + ms) Q (F0 m (pc + 3) ls ((r.map Value.int).toList ++ rest))) : W p l e R s m args below meth c H locs cells slots Q (F0 m pc ls st0) := by
  intro T hT X
  obtain ⟨v, st₀, t, T', L, h0, X', hL, e1, e2, ⟨⟨hv, ad', g1, g2, g3⟩, hz, hk⟩, st⟩ := hr T hT X
  cases hv
  rw [h0] at hz hk
  obtain ⟨t2, a1, b1⟩ := kk T'.heap (locs ++ L) ad' g1 (by rw [e1]; exact g2) (g3.weaken (fun _ _ _ z => hA _ z))
    ⟨Nat.le_trans hS.1 (by rw [e1]; exact hz), fun q h1 h2 => by rw [e1, hk q (Nat.lt_of_lt_of_le h1 hS.1) (fun z => h2 (hA q z))]; exact hS.2.1 q h1 h2, fun q hq => by
      rcases List.mem_append.mp hq with h | h
      · exact hS.2.2 q h
      · exact hA _ (hL q h)⟩ T' rfl X'
  exact ⟨t2, st t2 a1, b1⟩
end Cont
theorem x_Y_of {i : Nat} {q : xI} (h : x_inf[i]? = some q) : x_Y i = q.1 := by simp [x_Y, List.getD, h]
theorem x_ad_trans {ad0 ad ad' : Nat → Nat} {n0 n n' : Nat} (h1 : x_ad ad0 n0 ad n) (h2 : x_ad ad n ad' n') : x_ad ad0 n0 ad' n' := by
  refine ⟨Nat.le_trans h1.1 h2.1, fun i hi => ?_, fun q => ?_⟩
  · rw [h2.2.1 i (Nat.lt_of_lt_of_le hi h1.1), h1.2.1 i hi]
  · have e1 : n = n0 := by have := h1.1; have := h2.1; omega
    rw [h2.2.2 (by omega), h1.2.2 e1]
theorem x_lg_sl {vs : List Value} (h : ∀ v ∈ vs, v.category = 1) : lg_sl vs = vs.map Slot.val := by
  induction vs with
  | nil => rfl
  | cons v t ih =>
    have h1 : v.category = 1 := h v List.mem_cons_self
    have h2 := ih (fun w hw => h w (List.mem_cons_of_mem _ hw))
    unfold lg_sl at h2 ⊢
    simp only [List.flatMap_cons, h2, h1]
    rfl
theorem x_L_entry {as : List Value} {ad : Nat → Nat} {n : Nat} (h : ∀ v ∈ as, v.category = 1) (hn : as.length ≤ n) : x_L ((lg_sl (as.map (x_tr ad)) ++ List.replicate (n - (lg_sl (as.map (x_tr ad))).length) Slot.unset).toArray) (as ++ List.replicate (n - as.length) (.long 0)) ad := by
  have h1 : ∀ v ∈ as.map (x_tr ad), v.category = 1 := by
    intro v hv
    obtain ⟨w, hw, rfl⟩ := List.mem_map.mp hv
    rw [x_tr_cat, h w hw]
  have hle : (lg_sl (as.map (x_tr ad))).length ≤ n := by rw [x_lg_sl h1]; simpa using hn
  have hh := lv_entry (as.map (x_tr ad)) hle
  refine ⟨by rw [hh.1]; simp; omega, hh.2.1, fun i v hi hc => ?_⟩
  by_cases hl : i < as.length
  · rw [List.getElem?_append_left hl] at hi
    rw [x_lg_sl h1, List.getElem?_toArray, List.getElem?_append_left (by simpa using hl)]
    simp [hi]
  · rw [List.getElem?_append_right (by omega)] at hi
    have := List.mem_of_getElem? hi
    rw [List.mem_replicate] at this
    rw [this.2] at hc
    cases hc
