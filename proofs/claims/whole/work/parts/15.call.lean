section Call
variable {p : Program} {l : Launch} {e : Env} {R : Room} {s : State} {m : MethodId} {args : Array Value} {below : List Frame} {meth : Method} {c : Code} {Q : State → Prop} {D : va_G} {cI cZ cO : ClassId} {A : Nat → Prop} {L0 T0 n0 : Nat} {ad0 : Nat → Nat} {ls st : List Value} {h : xH}
set_option maxHeartbeats 4000000 in
theorem x_callS {q q2 : xI} (hX : x_X p s m args meth c R A q) (hN : x_Nst s) {d : Nat} (hF2 : d + 2 ≤ R.frames) (hL2 : 200 * (d + 2) ≤ R.locals) {en : xE} (hk : x_chk q en = true) (hlen : ls.length = q.2.2.1) {i pc' : Nat} {as ls' st' : List Value} (hs : x_step x_nf x_sws en ls st h = some (.inr (.inr (i, as, pc', ls', st')))) (hq2 : x_inf[i]? = some q2) {r : Option Int32} {h' : xH} (hM : x_Met l D cI cZ cO q2 d as h r h')
    (hm1 : h.1.length ≤ h'.1.length) (hm2 : x_sl h ≤ x_sl h') (hr1 : h'.1.length ≤ R.cells + L0) (hr2 : x_sl h' ≤ R.slots + T0) (hok : h'.1.length = h.1.length ∨ x_rok h.1.length ls' st' h.1 = true) (k : x_G p l e R s m args below meth c Q D cI cZ cO A L0 T0 n0 ad0 pc' ls' (r.toList.map Value.int ++ st') h') : x_G p l e R s m args below meth c Q D cI cZ cO A L0 T0 n0 ad0 en.1 ls st h := by
  obtain ⟨hx, hb, hml, hown, hts, hnm, hao, hA, hF, hLo⟩ := hX
  obtain ⟨pc, op, nx, a, b, cs, v⟩ := en
  obtain ⟨rfl, rfl, rfl, rfl, hst4, hasl, hcat, hop⟩ := r_call hs
  have hg2 := x_all_good i q2 hq2
  simp only [x_good, Bool.and_eq_true, decide_eq_true_eq, Bool.not_eq_true', beq_eq_false_iff_ne, beq_iff_eq] at hg2
  obtain ⟨⟨⟨⟨⟨⟨⟨⟨hpl, hcl2⟩, hmh⟩, hvh⟩, hpd⟩, hini2⟩, hall2⟩, hmx⟩, hnp⟩ := hg2
  obtain ⟨wr, hwP⟩ := x_all_wP i q2 hq2
  simp only [x_wP, Bool.and_eq_true] at hwP
  obtain ⟨⟨⟨wc, wi⟩, wx⟩, wsel⟩ := hwP
  have hcode := x_ok1_in wc
  have hinit := x_ok1_in wi
  have hGood : GoodIn x_tb (x_ws q2) := by
    intro w hw
    rcases List.mem_cons.mp hw with rfl | hw
    · exact ⟨hcode, x_tb_good hcode⟩
    · exact ⟨hw, x_tb_good hw⟩
  have hYi := x_Y_of hq2
  unfold x_chk at hk
  split at hk
  case h_2 => cases hk
  rename_i ins len hd
  simp only [Bool.and_eq_true] at hk
  obtain ⟨⟨hl, hf⟩, -⟩ := hk
  dsimp only at hd ⊢
  intro H locs cells slots ad lsR hI hL hc hs' ha
  have hDA : ∀ y, va_A (x_W cI cZ cO ad h) H.size y → A y := by
    intro y hy
    rcases hy with ⟨k0, e0, hk0⟩ | hy
    · exact hI.2.2.1.2 k0 _ hk0
    · exact hA y (Nat.le_trans hI.2.2.2.1 hy)
  have hblind : FrameBlind (va_Pc (as.map (x_tr ad)) (x_PB D cI cZ cO H.size ad h)) := fun a0 U g mk z => by
    obtain ⟨z0, z1, zP, zK, zD, zN⟩ := z
    exact ⟨z0, z1, zP, va_K.moved (u := U) (U := U.calling g mk a0) (Vm.Alike.refl U.vm) zK, zD, zN.blind⟩
  have hpre : ∀ U : State, U.heap = H → s.WarmedH U.vm → va_Pc (as.map (x_tr ad)) (x_PB D cI cZ cO H.size ad h) (as.map (x_tr ad)).toArray U := fun U hU hW => ⟨rfl, by rw [hU], by rw [hU]; exact hI.2.1, va_K.moved hW.alike hI.1, hI.2.2.1.weaken (fun _ _ _ _ => trivial), hN.warm hW⟩
  have hroomW : 2 * (F0 m pc lsR ((as.reverse ++ st').map (x_tr ad))).monitorRoom + ((st'.map (x_tr ad)).map fun v => v.category).sum ≤ 8 := by
    show 2 * 0 + _ ≤ 8
    have := x_catsum st' ad
    omega
  have hstk : (as.reverse ++ st').map (x_tr ad) = (as.map (x_tr ad)).reverse ++ st'.map (x_tr ad) := by simp
  have hroomC : cells + (h'.1.length - h.1.length) ≤ R.cells ∧ slots + (x_sl h' - x_sl h) ≤ R.slots := by omega
  have hfix : CallFix p m c q.2.1 q.2.2.1 s args x_tb (x_N q.2.2.2.2.2.1) := ⟨hx, hb, hml, hown, hts⟩
  have hRR : (x_rm d (h'.1.length - h.1.length) (x_sl h' - x_sl h)).frames + 1 ≤ R.frames ∧ 8 + (q2.2.2.1 + 11) + (x_rm d (h'.1.length - h.1.length) (x_sl h' - x_sl h)).locals ≤ R.locals := by
    show d + 1 + 1 ≤ R.frames ∧ 8 + (q2.2.2.1 + 11) + 200 * (d + 1) ≤ R.locals
    omega
  have hsz : lsR.size = q.2.2.1 := hL.1.trans hlen
  have fin : ∀ (rest : List Value), rest = st'.map (x_tr ad) → va_Run p l e R s m args below meth c H locs cells slots (h'.1.length - h.1.length) (x_sl h' - x_sl h) (F0 m pc lsR ((as.reverse ++ st').map (x_tr ad))) rest (x_Qc D cI cZ cO H.size ad h r h' (as.map (x_tr ad)).toArray) (va_A (x_W cI cZ cO ad h) H.size) → pc' = pc + 3 → W p l e R s m args below meth c H locs cells slots Q (F0 m pc lsR ((as.reverse ++ st').map (x_tr ad))) := by
    intro rest hrest hrun hpc
    subst hrest
    subst hpc
    refine x_cont hrun hI.2.2.2 hDA (fun H1 locs1 ad' g0 g1 g2 g3 => ?_)
    have hadls : x_L lsR ls' ad' ∧ st'.map (x_tr ad') = st'.map (x_tr ad) := by
      rcases hok with z | z
      · rw [g0.2.2 z]
        exact ⟨hL, rfl⟩
      · simp only [x_rok, Bool.and_eq_true] at z
        exact ⟨x_L_eq z.1.1 g0.2.1 hL, x_tr_eq z.1.2 g0.2.1⟩
    have hk' := k H1 locs1 (cells + (h'.1.length - h.1.length)) (slots + (x_sl h' - x_sl h)) ad' lsR ⟨hI.1, g1, g2, g3⟩ hadls.1 (by omega) (by omega) (x_ad_trans ha g0)
    rw [List.map_append, hadls.2] at hk'
    cases r with
    | none => exact hk'
    | some y => exact hk'
  rcases hop with rfl | ⟨rfl, x, as2, rf, rfl, hxq⟩
  · obtain ⟨idx, rfl, hml1, hany⟩ := f_25 hf
    rw [hq2] at hany
    simp only [Option.any_some, Bool.and_eq_true, beq_iff_eq] at hany
    simp only [x_len, Bool.and_eq_true, beq_iff_eq] at hl
    obtain ⟨rfl, rfl⟩ := hl
    rw [hany.1] at wx
    have hlk := x_ML_use hml1
    rw [hYi] at hlk
    refine fin _ rfl ?_ rfl
    exact va_runS (As := as.map (x_tr ad)) (rest := st'.map (x_tr ad)) hfix (hM ad H.size) ⟨callB_of (ws' := x_tb) q2.2.2.2.2.2.2.1 hts hGood rfl rfl rfl (hts _ hinit) (hts _ hlk) ⟨hmh, hvh, hpd⟩ hRR, hts _ (x_ok1_in wx)⟩ ⟨hblind, hpre⟩ rfl (by rw [List.length_map, hasl, hany.2]) hsz hstk hroomW hd hroomC
  · rcases f_26 hf with ⟨idx, rfl, hml1, hany⟩ | ⟨idx, rfl, hml1, hany⟩
    · rw [hq2] at hany
      simp only [Option.any_some, Bool.and_eq_true, beq_iff_eq, decide_eq_true_eq] at hany
      obtain ⟨⟨⟨hk1, hk2⟩, hk3⟩, hk4⟩ := hany
      simp only [x_len, Bool.and_eq_true, beq_iff_eq] at hl
      obtain ⟨rfl, rfl⟩ := hl
      rw [hk1] at wx
      have hsel : Cond.selects q2.1.cls q2.1 q2.1 ∈ x_tb := by
        simp only [hk1, bne_self_eq_false, Bool.false_or] at wsel
        exact x_ok1_in wsel
      have hn8 := List.all_eq_true.mp x_new_ok cs (List.mem_range.mpr hk4)
      simp only [Bool.and_eq_true, decide_eq_true_eq] at hn8
      have hcls : (x_C cs).1 = q2.1.cls := by rw [hn8.2, hcl2, hk3]; rfl
      have hrecv : ∃ cell : Cell, H[ad x]? = some cell ∧ cell.vm.isStatics = false ∧ s.vm.findClass q2.1.cls = some cell.cls := by
        have := va_recv hI.1 hI.2.1 (x_cl_at cs hk4) (x_W_at hxq)
        rw [← hcls]
        exact this
      have hstk2 : (F0 m pc lsR (((Value.ref x :: as2).reverse ++ st').map (x_tr ad))).stack = (as2.map (x_tr ad)).reverse ++ Value.ref (ad x) :: st'.map (x_tr ad) := by
        show ((Value.ref x :: as2).reverse ++ st').map (x_tr ad) = _
        simp [x_tr]
      have hal : (as2.map (x_tr ad)).length = q2.2.2.2.2.2.2.1 := by
        rw [List.length_map]
        rw [List.length_cons] at hasl
        omega
      refine fin _ rfl ?_ rfl
      rcases hml1 with hml1 | hml1
      · have hlk := x_ML_use hml1
        rw [hYi] at hlk
        exact va_runV (C := q2.1.cls) (b := ad x) (As := as2.map (x_tr ad)) (rest := st'.map (x_tr ad)) hfix (hM ad H.size) ⟨callB_of (ws' := x_tb) q2.2.2.2.2.2.2.1 hts hGood rfl rfl rfl (hts _ hinit) (hts _ hlk) ⟨hmh, hvh, hpd⟩ hRR, hts _ (x_ok1_in wx), hts _ hsel⟩ ⟨hblind, hrecv, hpre⟩ rfl hal hsz hstk2 hroomW hd hroomC
      · obtain ⟨z, hz, hz1⟩ := List.any_eq_true.mp hml1
        simp only [Bool.and_eq_true, beq_iff_eq] at hz1
        have hnl := hN.2 z hz
        rw [hz1.1.1, hz1.1.2, hz1.2, hYi] at hnl
        exact va_runVN (C := q2.1.cls) (b := ad x) (As := as2.map (x_tr ad)) (rest := st'.map (x_tr ad)) hfix (hM ad H.size) ⟨va_cnB (ws' := x_tb) q2.2.2.2.2.2.2.1 hts hGood rfl rfl rfl hnl (hts _ hinit) ⟨hmh, hvh, hpd⟩ hRR, hts _ (x_ok1_in wx), hts _ hsel⟩ ⟨hblind, hrecv, hpre⟩ rfl hal hsz hstk2 hroomW hd hroomC
    · rw [hq2] at hany
      simp only [Option.any_some, Bool.and_eq_true, beq_iff_eq, decide_eq_true_eq] at hany
      obtain ⟨⟨⟨hk1, hk2⟩, hk3⟩, hk4⟩ := hany
      simp only [x_len, Bool.and_eq_true, beq_iff_eq] at hl
      obtain ⟨rfl, rfl⟩ := hl
      rw [hk1] at wx
      have hlk := x_ML_use hml1
      rw [hYi] at hlk
      have hin2 : q2.1.name = "<init>" ∧ q2.2.2.2.1 = none := by
        simpa [hk1] using hini2
      have hstk2 : (F0 m pc lsR (((Value.ref x :: as2).reverse ++ st').map (x_tr ad))).stack = (as2.map (x_tr ad)).reverse ++ Value.ref (ad x) :: st'.map (x_tr ad) := by
        show ((Value.ref x :: as2).reverse ++ st').map (x_tr ad) = _
        simp [x_tr]
      have hal : (as2.map (x_tr ad)).length = q2.2.2.2.2.2.2.1 := by
        rw [List.length_map]
        rw [List.length_cons] at hasl
        omega
      have hcB := callB_of (own := x_N q.2.2.2.2.2.1) (index := idx) (ws' := x_tb) q2.2.2.2.2.2.2.1 hts hGood rfl rfl rfl (hts _ hinit) (hts _ hlk) ⟨hmh, hvh, hpd⟩ hRR
      rw [hin2.2] at hcB
      refine fin _ rfl ?_ rfl
      exact va_runI (b := ad x) (As := as2.map (x_tr ad)) (rest := st'.map (x_tr ad)) hfix (hM ad H.size) ⟨hcB, hin2.1, hts _ (x_ok1_in wx)⟩ ⟨hblind, hpre⟩ rfl hal hsz hstk2 hroomW hd hroomC
end Call
