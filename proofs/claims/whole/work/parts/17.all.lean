section All
variable {l : Launch} {D : va_G} {cI cZ cO : ClassId}
set_option maxHeartbeats 4000000 in
theorem x_all : ∀ N, x_IH l D cI cZ cO N := by
  intro N
  induction N using Nat.strongRecOn with
  | ind N ih =>
    intro i q hq d as h r h' hcat hal hs ad sz
    have hg2 := x_all_good i q hq
    simp only [x_good, Bool.and_eq_true, decide_eq_true_eq, Bool.not_eq_true', beq_eq_false_iff_ne, beq_iff_eq] at hg2
    obtain ⟨⟨⟨⟨⟨⟨⟨⟨hpl, hcl2⟩, hmh⟩, hvh⟩, hpd⟩, hini2⟩, hall2⟩, hmx⟩, hnp⟩ := hg2
    have hmo := x_ex_mono _ _ _ _ _ _ _ _ _ hs
    refine Met.ofW (cc := q.2.1) (maxL := q.2.2.1) (ret := q.2.2.2.1) hpl rfl ?_
    intro p e s m args below meth c s₁ B hml hv
    obtain ⟨rfl, hsz, hP, hK, hD, hN⟩ := hv
    have hts : ∀ w ∈ x_ws q, w.before (as.map (x_tr ad)).toArray s = true := atoms_spec (ws := x_ws q) B.pre
    have hlocks := B.notSynchronized
    have hAA : ∀ y, s.heap.size ≤ y → va_A (x_W cI cZ cO ad h) sz y := fun y hy => Or.inr (by rw [← hsz]; exact hy)
    have hown : s.vm.findClass (x_N q.2.2.2.2.2.1) = some m.cls := by
      have h1 := findClass_of_methodNamed B.named
      rw [hcl2] at h1
      exact h1
    have hX : x_X p s m (as.map (x_tr ad)).toArray meth c (x_rm d (h'.1.length - h.1.length) (x_sl h' - x_sl h)) (va_A (x_W cI cZ cO ad h) sz) q := ⟨B.exec, B.bytes, hml, hown, fun w hw => hts w (List.mem_cons_of_mem _ hw), fun z => (name_of_methodNamed B.named B.method).1.trans z, hN.1, hAA, by show 1 ≤ d + 1; omega, by show 200 ≤ 200 * (d + 1); omega⟩
    have hasl : as.length ≤ q.2.2.1 := by rw [hal]; exact hnp
    have key := x_snd N ih N (Nat.le_refl _) i q hq d 0 _ [] h r h' hs (by simp; omega) (p := p) (e := e) (below := below) (Q := MQ below (x_Qc D cI cZ cO sz ad h r h') (as.map (x_tr ad)).toArray s (h'.1.length - h.1.length) (x_sl h' - x_sl h) (va_A (x_W cI cZ cO ad h) sz)) (L0 := h.1.length) (T0 := x_sl h) (n0 := h.1.length) (ad0 := ad) hX hN (Nat.le_refl _) (Nat.le_refl _) (by show _ ≤ h'.1.length - h.1.length + _; omega) (by show _ ≤ x_sl h' - x_sl h + _; omega) ?_
    · rw [lg_entry_eq]
      exact key s.heap [] 0 0 ad _ ⟨hK, hP, hD.self, va_S.rf⟩ (x_L_entry hcat hasl) (Nat.zero_add _) (Nat.zero_add _) ⟨Nat.le_refl _, fun _ _ => rfl, fun _ => rfl⟩
    · intro pc' ls' st' hE H locs cells slots ad' lsR hI hL hc hs' ha
      obtain rfl : cells = h'.1.length - h.1.length := by omega
      obtain rfl : slots = x_sl h' - x_sl h := by omega
      rcases hE with ⟨rfl, rfl, hd, hret⟩ | ⟨y, rfl, rfl, hd, hret⟩
      · exact W.vret (Qc := x_Qc D cI cZ cO sz ad h none h') (free := va_A (x_W cI cZ cO ad h) sz) B.exec B.bytes (by rw [B.returns, hret]) (fun t ht hW => ⟨⟨rfl, ad', ha, by rw [ht]; exact hI.2.1, hI.2.2.1⟩, hI.2.2.2.F ht⟩) hI.2.2.2.2.2 hd
      · rcases hret with hret | ⟨hret, hy⟩
        · exact W.iret (Qc := x_Qc D cI cZ cO sz ad h (some y) h') (free := va_A (x_W cI cZ cO ad h) sz) B.exec B.bytes (by rw [B.returns, hret]) (fun t ht hW => ⟨⟨rfl, ad', ha, by rw [ht]; exact hI.2.1, hI.2.2.1⟩, hI.2.2.2.F ht⟩) hI.2.2.2.2.2 hd
        · exact W.zret (Qc := x_Qc D cI cZ cO sz ad h (some y) h') (free := va_A (x_W cI cZ cO ad h) sz) (ty := .boolean) B.exec B.bytes (by rw [B.returns, hret]) (by rcases hy with rfl | rfl <;> rfl) (fun t ht hW => ⟨⟨rfl, ad', ha, by rw [ht]; exact hI.2.1, hI.2.2.1⟩, hI.2.2.2.F ht⟩) hI.2.2.2.2.2 hd
end All
