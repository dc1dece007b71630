def R_law : String := "MuseumYearLaw"
def lw_P (b : Addr) (xs : List Int32) (args : Array Value) (s : State) : Prop := args = #[.ref b] ∧ s.IntsAt b xs ∧ xs.length ≤ 2048 ∧ (Jvm.Cond.and given_1 narrow_1).before args s = true
def lw_Q (_ : Array Value) (s : State) (o : Outcome) (t : State) : Prop := o = .returned (some (.int 1)) ∧ Framed s o t [] 600000 7302250
def lw_Z (below : List Frame) (a : Array Value) (s : State) : State → Prop := fun t => ∃ o, t.status = .running ∧ Ended t below o ∧ lw_Q a s o t
/-- the law's own end, with 1 on the stack, nothing written that was there before, its room as the claim has it -/
theorem lw_ret {p : Program} {l : Launch} {e : Env} {s : State} {m : MethodId} {below : List Frame} {meth : Method} {c : Code} {b : Nat} (hx : p.tables.exec = Jvm.exec) (hb : c.code = code) (hr : meth.sig.returnType = ret) (hlocks : meth.locks = false) {pc : Nat} {H : Heap} {ls : Array Slot} (hdg : decode code pc = .ok (.ireturn, 1)) : W p l e room_1 s m #[Value.ref b] below meth c H [] 600000 7302250 (lw_Z below #[Value.ref b] s) (F0 m pc ls [.int 1]) := by
  intro T hT X
  obtain ⟨fs, hret, hrun, hended, hW, hframe⟩ := X.leave (v := some (.int 1)) (hlocks := hlocks) (fun h => by rw [hr] at h; cases h)
  have hmeth' : T.vm.method? m = some meth := X.method'
  refine ⟨T.setFrames fs, ?_, .returned (some (.int 1)), hrun, hended, rfl, ⟨_, rfl⟩, hW, hframe⟩
  jvm_step X.here [X.here.top, hx, hb, hdg, hmeth', hr, ret, narrow_b1]
  (try refine ⟨rfl, ?_⟩); (try refine ⟨rfl, ?_⟩)
  first | (intro acts; rw [hret _ acts rfl rfl rfl]) | rw [hret _ _ rfl rfl rfl]
  exact Steps.refl _
/-- what holds at the law's entry: the machine, the code, the tables' words (any of lw_tbl by 'hts w (by decide +kernel)'), the script of L ints xs at the cell b, what the Statement gives of the start (any of its parts by flat_of_before) -/
def lw_At (p : Program) (s : State) (m : MethodId) (meth : Method) (c : Code) (b L : Nat) (xs : Nat → Int32) : Prop :=
  p.tables.exec = Jvm.exec ∧ c.code = code ∧ meth.sig.returnType = ret ∧ c.maxLocals = 4 ∧ s.vm.findClass R_law = some m.cls ∧ (∀ w ∈ lw_tbl, w.before #[Value.ref b] s = true) ∧ va_X b L xs s s.heap ∧ b < s.heap.size ∧ meth.locks = false ∧ (Jvm.Cond.and given_1 narrow_1).before #[Value.ref b] s = true
/-- the shapes behind the two constructors -/
def x_S0 : List xS := [(0, 6, [some 1, none, some 2, some 5, some 10, some 19, some 71, none, some 72, none, some 73]), (1, 100, []), (0, 3, [none, none, none, some 3, some 4]), (1, 6, []), (1, 4, []), (0, 4, [some 6, some 7, some 8, some 9, none]), (1, 8, []), (1, 6, []), (1, 6, []), (1, 6, []), (0, 1, [some 11, some 14, some 1, none, none, none, none, none, none, none]), (0, 3, [none, none, none, some 12, some 13]), (1, 6, []), (1, 4, []), (0, 4, [some 15, some 16, some 17, some 18, none]), (1, 8, []), (1, 6, []), (1, 6, []), (1, 6, []), (0, 0, [some 20, none, none]), (3, 10, [some 21, some 26, some 31, some 36, some 41, some 46, some 51, some 56, some 61, some 66]), (0, 4, [some 22, some 23, some 24, some 25, none]), (1, 8, []), (1, 6, []), (1, 6, []), (1, 6, []), (0, 4, [some 27, some 28, some 29, some 30, none]), (1, 8, []), (1, 6, []), (1, 6, []), (1, 6, []), (0, 4, [some 32, some 33, some 34, some 35, none]), (1, 8, []), (1, 6, []), (1, 6, []), (1, 6, []), (0, 4, [some 37, some 38, some 39, some 40, none]), (1, 8, []), (1, 6, []), (1, 6, []), (1, 6, []), (0, 4, [some 42, some 43, some 44, some 45, none]), (1, 8, []), (1, 6, []), (1, 6, []), (1, 6, []), (0, 4, [some 47, some 48, some 49, some 50, none]), (1, 8, []), (1, 6, []), (1, 6, []), (1, 6, []), (0, 4, [some 52, some 53, some 54, some 55, none]), (1, 8, []), (1, 6, []), (1, 6, []), (1, 6, []), (0, 4, [some 57, some 58, some 59, some 60, none]), (1, 8, []), (1, 6, []), (1, 6, []), (1, 6, []), (0, 4, [some 62, some 63, some 64, some 65, none]), (1, 8, []), (1, 6, []), (1, 6, []), (1, 6, []), (0, 4, [some 67, some 68, some 69, some 70, none]), (1, 8, []), (1, 6, []), (1, 6, []), (1, 6, []), (3, 2, [some 86, some 91]), (1, 4, []), (0, 5, [some 2, some 5, some 76, some 74, some 75, none, none]), (1, 8, []), (1, 6, []), (0, 2, [some 2, some 5, some 77, some 78, some 79, some 80, some 81, some 82, some 83, some 84, some 85, none, none, none, none, none, none]), (1, 8, []), (1, 8, []), (1, 6, []), (1, 6, []), (1, 6, []), (1, 8, []), (1, 8, []), (1, 10, []), (1, 8, []), (0, 4, [some 87, some 88, some 89, some 90, none]), (1, 8, []), (1, 6, []), (1, 6, []), (1, 6, []), (0, 4, [some 92, some 93, some 94, some 95, none]), (1, 8, []), (1, 6, []), (1, 6, []), (1, 6, []), (0, 7, [none, some 97, none, none, none, none, none, none, none, none, none, some 98, some 99, none, none, none, none, none, some 100, some 101, some 102, some 103, some 104, none, some 105, some 106, some 107, none, some 108, some 109, some 110, some 111, none, none]), (1, 100, []), (1, 4, []), (1, 6, []), (1, 4, []), (1, 6, []), (1, 27, []), (1, 27, []), (1, 270, []), (1, 54, []), (2, 2, []), (1, 4, []), (1, 8, []), (1, 9, []), (1, 6, []), (1, 8, [])]
def x_LL : List (Nat × Nat × Nat) := [(9, 66, 69), (13, 67, 339), (18, 68, 343), (23, 69, 347), (27, 70, 442), (32, 71, 450), (36, 72, 458), (40, 73, 470), (45, 74, 484), (49, 75, 492), (53, 76, 498), (57, 77, 506), (61, 78, 518), (65, 79, 620), (69, 80, 629), (73, 81, 647), (77, 82, 652), (81, 83, 671), (85, 84, 680), (89, 85, 688), (93, 86, 692), (97, 87, 696), (101, 88, 704), (105, 89, 708), (109, 90, 712), (12, 96, 723), (17, 99, 839), (22, 100, 846), (26, 110, 850), (31, 115, 889), (35, 116, 897), (39, 117, 905), (44, 119, 913), (48, 120, 921), (52, 121, 925), (56, 122, 929), (60, 123, 933), (64, 131, 937), (68, 132, 969), (72, 134, 973), (76, 135, 982), (80, 137, 986), (84, 138, 994), (88, 140, 998), (92, 141, 1006), (96, 142, 1010), (100, 143, 1014), (104, 144, 1018), (108, 145, 1022), (112, 146, 1026)]
theorem x_LL_ok : x_LL.all (fun q => x_ok1 (.methodLink R_law q.1 (x_Y q.2.1)) q.2.2) = true := by decide +kernel
theorem x_LK_ok : x_ok1 (.classLink R_law 7 RX6) 67 = true ∧ x_ok1 (.classLink R_law 10 RX7) 721 = true := by decide +kernel
theorem x_LL_use {idx i : Nat} (h : x_LL.any (fun q => q.1 == idx && q.2.1 == i) = true) : Cond.methodLink R_law idx (x_Y i) ∈ x_tb := by
  obtain ⟨q, hq, h1⟩ := List.any_eq_true.mp h
  simp only [Bool.and_eq_true, beq_iff_eq] at h1
  obtain ⟨rfl, rfl⟩ := h1
  exact x_ok1_in (List.all_eq_true.mp x_LL_ok q hq)
section LawCalls
variable {p : Program} {l : Launch} {e : Env} {s : State} {m : MethodId} {b : Nat} {below : List Frame} {meth : Method} {c : Code} {Q : State → Prop} {D : va_G} {cI cZ cO : ClassId} {A : Nat → Prop} {H : Heap} {locs : List Loc} {cells slots : Nat} {ad : Nat → Nat} {h h' : xH} {lsR : Array Slot} {pc : Nat} {rest : List Value}
def x_LX (p : Program) (s : State) (m : MethodId) (b : Nat) (c : Code) (A : Nat → Prop) : Prop := p.tables.exec = Jvm.exec ∧ c.code = code ∧ c.maxLocals = 4 ∧ s.vm.findClass R_law = some m.cls ∧ (∀ w ∈ x_tb, w.before #[Value.ref b] s = true) ∧ x_Nst s ∧ (∀ y, s.heap.size ≤ y → A y)
set_option maxHeartbeats 4000000 in
theorem law_call (hX : x_LX p s m b c A) (hI : x_I D cI cZ cO A s H locs ad h) {i idx : Nat} {q2 : xI} (hq2 : x_inf[i]? = some q2) (hlk : x_LL.any (fun q => q.1 == idx && q.2.1 == i) = true) {x : Nat} {as2 : List Int32} {rf : List (Option Nat)} (hxq : h.1[x]? = some (0, q2.2.2.2.2.2.1, rf)) (h8 : q2.2.2.2.2.2.1 < 8) (hal : as2.length = q2.2.2.2.2.2.2.1) (hkd : q2.2.2.2.2.1 = 1 ∧ decode code pc = .ok (.invokevirtual idx, 3) ∨ q2.2.2.2.2.1 = 2 ∧ decode code pc = .ok (.invokespecial idx, 3)) {n d : Nat} (hd0 : d ≤ 100) {r : Option Int32}
    (hrun : x_ex x_nf x_sws x_mt n d q2.2.2.2.2.2.2.2 0 ((Value.ref x :: as2.map Value.int) ++ List.replicate (q2.2.2.1 - (as2.length + 1)) (.long 0)) [] h = some (r, h')) (hsz : lsR.size = 4) (hrest : (rest.map fun v => v.category).sum ≤ 8) (hroom : cells + (h'.1.length - h.1.length) ≤ 600000 ∧ slots + (x_sl h' - x_sl h) ≤ 7302250)
    (k : ∀ (H1 : Heap) (locs1 : List Loc) (ad' : Nat → Nat), x_ad ad h.1.length ad' h'.1.length → x_I D cI cZ cO A s H1 locs1 ad' h' → W p l e room_1 s m #[Value.ref b] below meth c H1 locs1 (cells + (h'.1.length - h.1.length)) (slots + (x_sl h' - x_sl h)) Q (F0 m (pc + 3) lsR ((r.map Value.int).toList ++ rest))) : W p l e room_1 s m #[Value.ref b] below meth c H locs cells slots Q (F0 m pc lsR ((as2.map Value.int).reverse ++ Value.ref (ad x) :: rest)) := by
  obtain ⟨hx, hb, hml, hown, hts, hN, hA⟩ := hX
  have hg2 := x_all_good i q2 hq2
  simp only [x_good, Bool.and_eq_true, decide_eq_true_eq, Bool.not_eq_true', beq_eq_false_iff_ne, beq_iff_eq] at hg2
  obtain ⟨⟨⟨⟨⟨⟨⟨⟨hpl, hcl2⟩, hmh⟩, hvh⟩, hpd⟩, hini2⟩, hall2⟩, hmx⟩, hnp⟩ := hg2
  obtain ⟨wr, hwP⟩ := x_all_wP i q2 hq2
  simp only [x_wP, Bool.and_eq_true] at hwP
  obtain ⟨⟨⟨wc, wi⟩, wx⟩, wsel⟩ := hwP
  have hcode := x_ok1_in wc
  have hinit := x_ok1_in wi
  have hGood : GoodIn x_tb (x_ws q2) := by
    intro w hw
    rcases List.mem_cons.mp hw with rfl | hw
    · exact ⟨hcode, x_tb_good hcode⟩
    · exact ⟨hw, x_tb_good hw⟩
  have hlk2 := x_LL_use hlk
  rw [x_Y_of hq2] at hlk2
  have hk12 : ¬ q2.2.2.2.2.1 = 0 := by rcases hkd with z | z <;> rw [z.1] <;> decide
  have hM := x_all (l := l) (D := D) (cI := cI) (cZ := cZ) (cO := cO) n i q2 hq2 d (Value.ref x :: as2.map Value.int) h r h' (by
    intro v hv
    rcases List.mem_cons.mp hv with rfl | hv
    · rfl
    · obtain ⟨w, -, rfl⟩ := List.mem_map.mp hv
      rfl) (by rw [if_neg hk12]; simp [hal]) (by rw [show (Value.ref x :: as2.map Value.int).length = as2.length + 1 by simp]; exact hrun)
  have hmap : (Value.ref x :: as2.map Value.int).map (x_tr ad) = Value.ref (ad x) :: as2.map Value.int := by simp [x_tr, Function.comp_def]
  have hMa := hM ad H.size
  rw [hmap] at hMa
  have hDA : ∀ y, va_A (x_W cI cZ cO ad h) H.size y → A y := by
    intro y hy
    rcases hy with ⟨k0, e0, hk0⟩ | hy
    · exact hI.2.2.1.2 k0 _ hk0
    · exact hA y (Nat.le_trans hI.2.2.2.1 hy)
  have hblind : FrameBlind (va_Pc (Value.ref (ad x) :: as2.map Value.int) (x_PB D cI cZ cO H.size ad h)) := fun a0 U g mk z => by
    obtain ⟨z0, z1, zP, zK, zD, zN⟩ := z
    exact ⟨z0, z1, zP, va_K.moved (u := U) (U := U.calling g mk a0) (Vm.Alike.refl U.vm) zK, zD, zN.blind⟩
  have hpre : ∀ U : State, U.heap = H → s.WarmedH U.vm → va_Pc (Value.ref (ad x) :: as2.map Value.int) (x_PB D cI cZ cO H.size ad h) (Value.ref (ad x) :: as2.map Value.int).toArray U := fun U hU hW => ⟨rfl, by rw [hU], by rw [hU]; exact hI.2.1, va_K.moved hW.alike hI.1, hI.2.2.1.weaken (fun _ _ _ _ => trivial), hN.warm hW⟩
  have hfix : CallFix p m c code 4 s #[Value.ref b] x_tb R_law := ⟨hx, hb, hml, hown, hts⟩
  have hRR : (x_rm d (h'.1.length - h.1.length) (x_sl h' - x_sl h)).frames + 1 ≤ room_1.frames ∧ 8 + (q2.2.2.1 + 11) + (x_rm d (h'.1.length - h.1.length) (x_sl h' - x_sl h)).locals ≤ room_1.locals := by
    show d + 1 + 1 ≤ 2048 ∧ 8 + (q2.2.2.1 + 11) + 200 * (d + 1) ≤ 84000
    omega
  have hn8 := List.all_eq_true.mp x_new_ok _ (List.mem_range.mpr h8)
  simp only [Bool.and_eq_true, decide_eq_true_eq] at hn8
  have hcls : (x_C q2.2.2.2.2.2.1).1 = q2.1.cls := by rw [hn8.2, hcl2]; rfl
  have hrecv : ∃ cell : Cell, H[ad x]? = some cell ∧ cell.vm.isStatics = false ∧ s.vm.findClass q2.1.cls = some cell.cls := by
    have := va_recv hI.1 hI.2.1 (x_cl_at _ h8) (x_W_at hxq)
    rw [← hcls]
    exact this
  have hal2 : (as2.map Value.int).length = q2.2.2.2.2.2.2.1 := by rw [List.length_map, hal]
  have fin : va_Run p l e room_1 s m #[Value.ref b] below meth c H locs cells slots (h'.1.length - h.1.length) (x_sl h' - x_sl h) (F0 m pc lsR ((as2.map Value.int).reverse ++ Value.ref (ad x) :: rest)) rest (x_Qc D cI cZ cO H.size ad h r h' (Value.ref (ad x) :: as2.map Value.int).toArray) (va_A (x_W cI cZ cO ad h) H.size) → W p l e room_1 s m #[Value.ref b] below meth c H locs cells slots Q (F0 m pc lsR ((as2.map Value.int).reverse ++ Value.ref (ad x) :: rest)) := by
    intro hrun
    exact x_cont hrun hI.2.2.2 hDA (fun H1 locs1 ad' g0 g1 g2 g3 => k H1 locs1 ad' g0 ⟨hI.1, g1, g2, g3⟩)
  rcases hkd with ⟨hk1, hd⟩ | ⟨hk1, hd⟩
  · rw [hk1] at wx
    have hsel : Cond.selects q2.1.cls q2.1 q2.1 ∈ x_tb := by
      simp only [hk1, bne_self_eq_false, Bool.false_or] at wsel
      exact x_ok1_in wsel
    exact fin (va_runV (C := q2.1.cls) (b := ad x) (As := as2.map Value.int) (rest := rest) hfix hMa ⟨callB_of (ws' := x_tb) q2.2.2.2.2.2.2.1 hts hGood rfl rfl rfl (hts _ hinit) (hts _ hlk2) ⟨hmh, hvh, hpd⟩ hRR, hts _ (x_ok1_in wx), hts _ hsel⟩ ⟨hblind, hrecv, hpre⟩ rfl hal2 hsz rfl (lv_room hrest) hd hroom)
  · rw [hk1] at wx
    have hin2 : q2.1.name = "<init>" ∧ q2.2.2.2.1 = none := by
      simpa [hk1] using hini2
    have hcB := callB_of (own := R_law) (index := idx) (ws' := x_tb) q2.2.2.2.2.2.2.1 hts hGood rfl rfl rfl (hts _ hinit) (hts _ hlk2) ⟨hmh, hvh, hpd⟩ hRR
    rw [hin2.2] at hcB
    exact fin (va_runI (b := ad x) (As := as2.map Value.int) (rest := rest) hfix hMa ⟨hcB, hin2.1, hts _ (x_ok1_in wx)⟩ ⟨hblind, hpre⟩ rfl hal2 hsz rfl (lv_room hrest) hd hroom)
theorem law_new (hX : x_LX p s m b c A) (hI : x_I D cI cZ cO A s H locs ad h) {i a : Nat} (ha8 : a < 8) (hr1 : cells + 1 ≤ 600000) (hr2 : slots + (x_C a).2.2 ≤ 7302250) (o3 : h.1.all (fun q => q.2.2.all (x_ro h.1.length)) = true) (hlk : Cond.classLink R_law i (x_C a).1 ∈ x_tb) (hd : decode code pc = .ok (.new i, 3))
    (k : ∀ (z : Nat) (H1 : Heap), x_I D cI cZ cO A s H1 locs (x_adp ad h.1.length z) (x_push h.1 h.2 (0, a, List.replicate (x_nf.getD a 0) none)) → W p l e room_1 s m #[Value.ref b] below meth c H1 locs (cells + 1) (slots + (x_C a).2.2) Q (F0 m (pc + 3) lsR (.ref z :: rest))) : W p l e room_1 s m #[Value.ref b] below meth c H locs cells slots Q (F0 m pc lsR rest) := by
  obtain ⟨hx, hb, hml, hown, hts, hN, hA⟩ := hX
  have hn := List.all_eq_true.mp x_new_ok a (List.mem_range.mpr ha8)
  simp only [Bool.and_eq_true, decide_eq_true_eq] at hn
  have hfs : ∀ (V : xV) (ad' : Nat → Nat) (z : Nat), (∀ k, V z k = 0) → ∀ j, j < (x_C a).2.2 → defaultValue (x_ty a j) = vp_V (x_fs ad' V z a (List.replicate (x_nf.getD a 0) none)) j := by
    intro V ad' z hV j hj
    have e1 : vp_V (x_fs ad' V z a (List.replicate (x_nf.getD a 0) none)) j = x_fv ad' V z a (List.replicate (x_nf.getD a 0) none) j := by simp [vp_V, List.getD, x_fs_at hj]
    rw [e1]
    unfold x_fv
    rcases x_kd_use ha8 hj with ⟨q1, q2, -⟩ | ⟨q1, q2, -⟩ | ⟨q1, -, -, q2⟩
    · rw [q1, q2, hV]; rfl
    · rw [q1, q2, hV]; rfl
    · rw [if_pos q1]
      have e2 : ((List.replicate (x_nf.getD a 0) (none : Option Nat))[j]?).getD none = none := by
        rw [List.getElem?_replicate]
        split <;> rfl
      rw [e2]
      revert q2
      cases x_ty a j <;> intro q2 <;> first | rfl | cases q2
  refine va_new hx hb hts (x_in_ok a ha8) (x_ty a) (x_ty_ok a ha8) hown (hts _ hlk) (hts _ (x_ok1_in hn.1.1)) (hts _ (x_ok1_in hn.1.2)) hI.1 hI.2.1 hI.2.2.1 hI.2.2.2 hA (x_cl_at a ha8) (fs := x_fs ad (x_push h.1 h.2 (0, a, List.replicate (x_nf.getD a 0) none)).2 h.1.length a (List.replicate (x_nf.getD a 0) none)) (hfs _ _ _ (fun k => by simp [x_push])) hr1 hr2 hd (fun z H1 g1 g2 g3 => ?_)
  have e0 : (.inr (a, x_fs ad (x_push h.1 h.2 (0, a, List.replicate (x_nf.getD a 0) none)).2 h.1.length a (List.replicate (x_nf.getD a 0) none)) : va_E) = x_cell cI cZ cO (x_adp ad h.1.length z) (x_push h.1 h.2 (0, a, List.replicate (x_nf.getD a 0) none)).2 h.1.length (0, a, List.replicate (x_nf.getD a 0) none) := by
    rw [x_cell_ad (by simp [x_ro])]
    rfl
  rw [e0] at g1 g2
  have e1 := x_W_push (cI := cI) (cZ := cZ) (cO := cO) (ad := ad) (S := h.1) (V := h.2) (q := (0, a, List.replicate (x_nf.getD a 0) none)) (a := z) o3
  rw [show x_W cI cZ cO ad h = x_W cI cZ cO ad (h.1, h.2) from rfl, e1] at g1 g2
  exact k z H1 ⟨hI.1, g1, g2, g3⟩
end LawCalls
