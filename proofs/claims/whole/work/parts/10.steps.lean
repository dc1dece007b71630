theorem x_sl_set {S : List xS} {V : xV} {x : Nat} {q q' : xS} (hq : S[x]? = some q) (hs : x_slots q' = x_slots q) : x_sl (S.set x q', V) = x_sl (S, V) := by
  show ((S.set x q').map x_slots).sum = (S.map x_slots).sum
  rw [List.map_set, hs]
  congr 1
  apply List.ext_getElem?
  intro j
  rw [List.getElem?_set]
  by_cases hx : x = j
  · subst hx
    rw [if_pos rfl, List.getElem?_map, hq]
    simp [x_lt hq]
  · rw [if_neg hx]
/-! each step of the pure machine is one of the machine's -/
def x_I (D : va_G) (cI cZ cO : ClassId) (A : Nat → Prop) (s : State) (H : Heap) (locs : List Loc) (ad : Nat → Nat) (h : xH) : Prop := va_K D x_cl [(cI, .int), (cZ, .boolean), (cO, .object RX4)] s ∧ va_P D x_cl (x_W cI cZ cO ad h) H ∧ va_D A (x_W cI cZ cO ad h) ∧ va_S A s.heap H locs
def x_G (p : Program) (l : Launch) (e : Env) (R : Room) (s : State) (m : MethodId) (args : Array Value) (below : List Frame) (meth : Method) (c : Code) (Q : State → Prop) (D : va_G) (cI cZ cO : ClassId) (A : Nat → Prop) (L0 T0 n0 : Nat) (ad0 : Nat → Nat) (pc : Nat) (ls st : List Value) (h : xH) : Prop :=
  ∀ (H : Heap) (locs : List Loc) (cells slots : Nat) (ad : Nat → Nat) (lsR : Array Slot), x_I D cI cZ cO A s H locs ad h → x_L lsR ls ad → cells + L0 = h.1.length → slots + T0 = x_sl h → x_ad ad0 n0 ad h.1.length → W p l e R s m args below meth c H locs cells slots Q (F0 m pc lsR (st.map (x_tr ad)))
section Steps
variable {p : Program} {l : Launch} {e : Env} {R : Room} {s : State} {m : MethodId} {args : Array Value} {below : List Frame} {meth : Method} {c : Code} {Q : State → Prop} {D : va_G} {cI cZ cO : ClassId} {A : Nat → Prop} {L0 T0 n0 : Nat} {ad0 : Nat → Nat} {cc : ByteArray} {pc : Nat} {ls st : List Value} {h : xH} {cn : Nat}

theorem s_iconst (hx : p.tables.exec = Jvm.exec) (hb : c.code = cc) {n : Int} (hd : decode cc pc = .ok (.iconst n, 1)) (k : x_G p l e R s m args below meth c Q D cI cZ cO A L0 T0 n0 ad0 (pc + 1) ls (.int (Int32.ofInt n) :: st) h) : x_G p l e R s m args below meth c Q D cI cZ cO A L0 T0 n0 ad0 pc ls (st) h := by
  intro H locs cells slots ad lsR hI hL hc hs ha
  exact lv_iconst hx hb hd rfl (k H locs cells slots ad lsR hI hL hc hs ha)
theorem s_bipush (hx : p.tables.exec = Jvm.exec) (hb : c.code = cc) {n : Int} (hd : decode cc pc = .ok (.bipush n, 2)) (k : x_G p l e R s m args below meth c Q D cI cZ cO A L0 T0 n0 ad0 (pc + 2) ls (.int (Int8.ofInt n).toInt32 :: st) h) : x_G p l e R s m args below meth c Q D cI cZ cO A L0 T0 n0 ad0 pc ls (st) h := by
  intro H locs cells slots ad lsR hI hL hc hs ha
  exact lv_bipush hx hb hd rfl (k H locs cells slots ad lsR hI hL hc hs ha)
theorem s_sipush (hx : p.tables.exec = Jvm.exec) (hb : c.code = cc) {n : Int} (hd : decode cc pc = .ok (.sipush n, 3)) (k : x_G p l e R s m args below meth c Q D cI cZ cO A L0 T0 n0 ad0 (pc + 3) ls (.int (Int16.ofInt n).toInt32 :: st) h) : x_G p l e R s m args below meth c Q D cI cZ cO A L0 T0 n0 ad0 pc ls (st) h := by
  intro H locs cells slots ad lsR hI hL hc hs ha
  exact lv_sipush hx hb hd rfl (k H locs cells slots ad lsR hI hL hc hs ha)
theorem s_ldc (hx : p.tables.exec = Jvm.exec) (hb : c.code = cc) {i : Nat} {v : Int32} (hown : s.vm.findClass (x_N cn) = some m.cls) (hts : ∀ w ∈ x_tb, w.before args s = true) (hk : Cond.constant (x_N cn) i v ∈ x_tb) (hd : decode cc pc = .ok (.ldc i, 2)) (k : x_G p l e R s m args below meth c Q D cI cZ cO A L0 T0 n0 ad0 (pc + 2) ls (.int v :: st) h) : x_G p l e R s m args below meth c Q D cI cZ cO A L0 T0 n0 ad0 pc ls (st) h := by
  intro H locs cells slots ad lsR hI hL hc hs ha
  exact lv_ldc hx hb hown (hts _ hk) hd (k H locs cells slots ad lsR hI hL hc hs ha)
theorem s_ldc_w (hx : p.tables.exec = Jvm.exec) (hb : c.code = cc) {i : Nat} {v : Int32} (hown : s.vm.findClass (x_N cn) = some m.cls) (hts : ∀ w ∈ x_tb, w.before args s = true) (hk : Cond.constant (x_N cn) i v ∈ x_tb) (hd : decode cc pc = .ok (.ldc_w i, 3)) (k : x_G p l e R s m args below meth c Q D cI cZ cO A L0 T0 n0 ad0 (pc + 3) ls (.int v :: st) h) : x_G p l e R s m args below meth c Q D cI cZ cO A L0 T0 n0 ad0 pc ls (st) h := by
  intro H locs cells slots ad lsR hI hL hc hs ha
  exact lv_ldcw hx hb hown (hts _ hk) hd (k H locs cells slots ad lsR hI hL hc hs ha)
theorem s_iload_n (hx : p.tables.exec = Jvm.exec) (hb : c.code = cc) {i : Fin 4} {x : Int32} (hl : ls[(i : Nat)]? = some (.int x)) (hd : decode cc pc = .ok (.iload_n i, 1)) (k : x_G p l e R s m args below meth c Q D cI cZ cO A L0 T0 n0 ad0 (pc + 1) ls (.int x :: st) h) : x_G p l e R s m args below meth c Q D cI cZ cO A L0 T0 n0 ad0 pc ls (st) h := by
  intro H locs cells slots ad lsR hI hL hc hs ha
  exact lv_iload_n hx hb hd rfl (hL.2.2 _ _ hl rfl) (k H locs cells slots ad lsR hI hL hc hs ha)
theorem s_iload (hx : p.tables.exec = Jvm.exec) (hb : c.code = cc) {i : Nat} {x : Int32} (hl : ls[i]? = some (.int x)) (hd : decode cc pc = .ok (.iload i, 2)) (k : x_G p l e R s m args below meth c Q D cI cZ cO A L0 T0 n0 ad0 (pc + 2) ls (.int x :: st) h) : x_G p l e R s m args below meth c Q D cI cZ cO A L0 T0 n0 ad0 pc ls (st) h := by
  intro H locs cells slots ad lsR hI hL hc hs ha
  exact lv_iload hx hb hd (hL.2.2 _ _ hl rfl) (k H locs cells slots ad lsR hI hL hc hs ha)
theorem s_aload_n (hx : p.tables.exec = Jvm.exec) (hb : c.code = cc) {i : Fin 4} {x : Nat} (hl : ls[(i : Nat)]? = some (.ref x)) (hd : decode cc pc = .ok (.aload_n i, 1)) (k : x_G p l e R s m args below meth c Q D cI cZ cO A L0 T0 n0 ad0 (pc + 1) ls (.ref x :: st) h) : x_G p l e R s m args below meth c Q D cI cZ cO A L0 T0 n0 ad0 pc ls (st) h := by
  intro H locs cells slots ad lsR hI hL hc hs ha
  exact lv_aload_n hx hb hd rfl (hL.2.2 _ _ hl rfl) (k H locs cells slots ad lsR hI hL hc hs ha)
theorem s_istore_n (hx : p.tables.exec = Jvm.exec) (hb : c.code = cc) {i : Fin 4} {x : Int32} (hi : (i : Nat) < ls.length) (hd : decode cc pc = .ok (.istore_n i, 1)) (k : x_G p l e R s m args below meth c Q D cI cZ cO A L0 T0 n0 ad0 (pc + 1) (ls.set (i : Nat) (.int x)) st h) : x_G p l e R s m args below meth c Q D cI cZ cO A L0 T0 n0 ad0 pc ls (.int x :: st) h := by
  intro H locs cells slots ad lsR hI hL hc hs ha
  exact lv_istore_n (x := x) (lv := x_lv ad ls) (nL := ls.length) hx hb hd rfl (x_L_has hL) hi rfl (fun ls' hl' => (k H locs cells slots ad ls' hI (x_L_of hi hl') hc hs ha))
theorem s_istore (hx : p.tables.exec = Jvm.exec) (hb : c.code = cc) {i : Nat} {x : Int32} (hi : i < ls.length) (hd : decode cc pc = .ok (.istore i, 2)) (k : x_G p l e R s m args below meth c Q D cI cZ cO A L0 T0 n0 ad0 (pc + 2) (ls.set i (.int x)) st h) : x_G p l e R s m args below meth c Q D cI cZ cO A L0 T0 n0 ad0 pc ls (.int x :: st) h := by
  intro H locs cells slots ad lsR hI hL hc hs ha
  exact lv_istore (x := x) (lv := x_lv ad ls) (nL := ls.length) hx hb hd (x_L_has hL) hi rfl (fun ls' hl' => (k H locs cells slots ad ls' hI (x_L_of hi hl') hc hs ha))
theorem s_astore_n (hx : p.tables.exec = Jvm.exec) (hb : c.code = cc) {i : Fin 4} {x : Nat} (hi : (i : Nat) < ls.length) (hd : decode cc pc = .ok (.astore_n i, 1)) (k : x_G p l e R s m args below meth c Q D cI cZ cO A L0 T0 n0 ad0 (pc + 1) (ls.set (i : Nat) (.ref x)) st h) : x_G p l e R s m args below meth c Q D cI cZ cO A L0 T0 n0 ad0 pc ls (.ref x :: st) h := by
  intro H locs cells slots ad lsR hI hL hc hs ha
  exact lv_astore_n (x := ad x) (lv := x_lv ad ls) (nL := ls.length) hx hb hd rfl (x_L_has hL) hi rfl (fun ls' hl' => (k H locs cells slots ad ls' hI (x_L_of hi hl') hc hs ha))
theorem s_iinc (hx : p.tables.exec = Jvm.exec) (hb : c.code = cc) {i : Nat} {n : Int} {x : Int32} (hl : ls[i]? = some (.int x)) (hd : decode cc pc = .ok (.iinc i n, 3)) (k : x_G p l e R s m args below meth c Q D cI cZ cO A L0 T0 n0 ad0 (pc + 3) (ls.set i (.int (x + Int32.ofInt n))) st h) : x_G p l e R s m args below meth c Q D cI cZ cO A L0 T0 n0 ad0 pc ls st h := by
  intro H locs cells slots ad lsR hI hL hc hs ha
  have hi : i < ls.length := (List.getElem?_eq_some_iff.mp hl).1
  obtain ⟨j, hj⟩ := List.mem_iff_getElem?.mp (x_lv_mem (ad := ad) hl rfl)
  exact lv_iinc (x := x) (lv := x_lv ad ls) (nL := ls.length) (k := j) hx hb hd (x_L_has hL) hj rfl hi rfl (fun ls' hl' => k H locs cells slots ad ls' hI (x_L_of hi hl') hc hs ha)
theorem s_iadd (hx : p.tables.exec = Jvm.exec) (hb : c.code = cc) {x y : Int32} (hd : decode cc pc = .ok (.iadd, 1)) (k : x_G p l e R s m args below meth c Q D cI cZ cO A L0 T0 n0 ad0 (pc + 1) ls (.int (x + y) :: st) h) : x_G p l e R s m args below meth c Q D cI cZ cO A L0 T0 n0 ad0 pc ls (.int y :: .int x :: st) h := by
  intro H locs cells slots ad lsR hI hL hc hs ha
  exact lv_iadd hx hb hd (k H locs cells slots ad lsR hI hL hc hs ha)
theorem s_isub (hx : p.tables.exec = Jvm.exec) (hb : c.code = cc) {x y : Int32} (hd : decode cc pc = .ok (.isub, 1)) (k : x_G p l e R s m args below meth c Q D cI cZ cO A L0 T0 n0 ad0 (pc + 1) ls (.int (x - y) :: st) h) : x_G p l e R s m args below meth c Q D cI cZ cO A L0 T0 n0 ad0 pc ls (.int y :: .int x :: st) h := by
  intro H locs cells slots ad lsR hI hL hc hs ha
  exact lv_isub hx hb hd (k H locs cells slots ad lsR hI hL hc hs ha)
theorem s_imul (hx : p.tables.exec = Jvm.exec) (hb : c.code = cc) {x y : Int32} (hd : decode cc pc = .ok (.imul, 1)) (k : x_G p l e R s m args below meth c Q D cI cZ cO A L0 T0 n0 ad0 (pc + 1) ls (.int (x * y) :: st) h) : x_G p l e R s m args below meth c Q D cI cZ cO A L0 T0 n0 ad0 pc ls (.int y :: .int x :: st) h := by
  intro H locs cells slots ad lsR hI hL hc hs ha
  exact lv_imul hx hb hd (k H locs cells slots ad lsR hI hL hc hs ha)
theorem s_iand (hx : p.tables.exec = Jvm.exec) (hb : c.code = cc) {x y : Int32} (hd : decode cc pc = .ok (.iand, 1)) (k : x_G p l e R s m args below meth c Q D cI cZ cO A L0 T0 n0 ad0 (pc + 1) ls (.int (x &&& y) :: st) h) : x_G p l e R s m args below meth c Q D cI cZ cO A L0 T0 n0 ad0 pc ls (.int y :: .int x :: st) h := by
  intro H locs cells slots ad lsR hI hL hc hs ha
  exact lv_iand hx hb hd (k H locs cells slots ad lsR hI hL hc hs ha)
theorem s_ior (hx : p.tables.exec = Jvm.exec) (hb : c.code = cc) {x y : Int32} (hd : decode cc pc = .ok (.ior, 1)) (k : x_G p l e R s m args below meth c Q D cI cZ cO A L0 T0 n0 ad0 (pc + 1) ls (.int (x ||| y) :: st) h) : x_G p l e R s m args below meth c Q D cI cZ cO A L0 T0 n0 ad0 pc ls (.int y :: .int x :: st) h := by
  intro H locs cells slots ad lsR hI hL hc hs ha
  exact lv_ior hx hb hd (k H locs cells slots ad lsR hI hL hc hs ha)
theorem s_ixor (hx : p.tables.exec = Jvm.exec) (hb : c.code = cc) {x y : Int32} (hd : decode cc pc = .ok (.ixor, 1)) (k : x_G p l e R s m args below meth c Q D cI cZ cO A L0 T0 n0 ad0 (pc + 1) ls (.int (x ^^^ y) :: st) h) : x_G p l e R s m args below meth c Q D cI cZ cO A L0 T0 n0 ad0 pc ls (.int y :: .int x :: st) h := by
  intro H locs cells slots ad lsR hI hL hc hs ha
  exact lv_ixor hx hb hd (k H locs cells slots ad lsR hI hL hc hs ha)
theorem s_ishl (hx : p.tables.exec = Jvm.exec) (hb : c.code = cc) {x y : Int32} (hd : decode cc pc = .ok (.ishl, 1)) (k : x_G p l e R s m args below meth c Q D cI cZ cO A L0 T0 n0 ad0 (pc + 1) ls (.int (x <<< (y &&& 31)) :: st) h) : x_G p l e R s m args below meth c Q D cI cZ cO A L0 T0 n0 ad0 pc ls (.int y :: .int x :: st) h := by
  intro H locs cells slots ad lsR hI hL hc hs ha
  exact lv_ishl hx hb hd (k H locs cells slots ad lsR hI hL hc hs ha)
theorem s_ishr (hx : p.tables.exec = Jvm.exec) (hb : c.code = cc) {x y : Int32} (hd : decode cc pc = .ok (.ishr, 1)) (k : x_G p l e R s m args below meth c Q D cI cZ cO A L0 T0 n0 ad0 (pc + 1) ls (.int (x >>> (y &&& 31)) :: st) h) : x_G p l e R s m args below meth c Q D cI cZ cO A L0 T0 n0 ad0 pc ls (.int y :: .int x :: st) h := by
  intro H locs cells slots ad lsR hI hL hc hs ha
  exact lv_ishr hx hb hd (k H locs cells slots ad lsR hI hL hc hs ha)
theorem s_iushr (hx : p.tables.exec = Jvm.exec) (hb : c.code = cc) {x y : Int32} (hd : decode cc pc = .ok (.iushr, 1)) (k : x_G p l e R s m args below meth c Q D cI cZ cO A L0 T0 n0 ad0 (pc + 1) ls (.int ((x.toUInt32 >>> (y.toUInt32 &&& Int32.toUInt32 31)).toInt32) :: st) h) : x_G p l e R s m args below meth c Q D cI cZ cO A L0 T0 n0 ad0 pc ls (.int y :: .int x :: st) h := by
  intro H locs cells slots ad lsR hI hL hc hs ha
  exact lv_iushr hx hb hd rfl (k H locs cells slots ad lsR hI hL hc hs ha)
theorem s_idiv (hx : p.tables.exec = Jvm.exec) (hb : c.code = cc) {x y : Int32} (h0 : ¬ y = 0) (hd : decode cc pc = .ok (.idiv, 1)) (k : x_G p l e R s m args below meth c Q D cI cZ cO A L0 T0 n0 ad0 (pc + 1) ls (.int (x / y) :: st) h) : x_G p l e R s m args below meth c Q D cI cZ cO A L0 T0 n0 ad0 pc ls (.int y :: .int x :: st) h := by
  intro H locs cells slots ad lsR hI hL hc hs ha
  exact lv_idiv hx hb hd h0 (k H locs cells slots ad lsR hI hL hc hs ha)
theorem s_irem (hx : p.tables.exec = Jvm.exec) (hb : c.code = cc) {x y : Int32} (h0 : ¬ y = 0) (hd : decode cc pc = .ok (.irem, 1)) (k : x_G p l e R s m args below meth c Q D cI cZ cO A L0 T0 n0 ad0 (pc + 1) ls (.int (x - x / y * y) :: st) h) : x_G p l e R s m args below meth c Q D cI cZ cO A L0 T0 n0 ad0 pc ls (.int y :: .int x :: st) h := by
  intro H locs cells slots ad lsR hI hL hc hs ha
  exact lv_irem hx hb hd h0 (k H locs cells slots ad lsR hI hL hc hs ha)
theorem s_icmp_eq (hx : p.tables.exec = Jvm.exec) (hb : c.code = cc) {x y : Int32} {off : Int} {t : Nat} (ht : (pc : Int) + off = (t : Int)) (hd : decode cc pc = .ok (.if_icmp .eq off, 3)) (k1 : x = y → x_G p l e R s m args below meth c Q D cI cZ cO A L0 T0 n0 ad0 t ls st h) (k2 : ¬ x = y → x_G p l e R s m args below meth c Q D cI cZ cO A L0 T0 n0 ad0 (pc + 3) ls st h) : x_G p l e R s m args below meth c Q D cI cZ cO A L0 T0 n0 ad0 pc ls (.int y :: .int x :: st) h := by
  intro H locs cells slots ad lsR hI hL hc hs ha
  exact lv_icmp_eq hx hb hd ht (fun q => k1 q H locs cells slots ad lsR hI hL hc hs ha) (fun q => k2 q H locs cells slots ad lsR hI hL hc hs ha)
theorem s_if_eq (hx : p.tables.exec = Jvm.exec) (hb : c.code = cc) {x : Int32} {off : Int} {t : Nat} (ht : (pc : Int) + off = (t : Int)) (hd : decode cc pc = .ok (.ifCond .eq off, 3)) (k1 : x = 0 → x_G p l e R s m args below meth c Q D cI cZ cO A L0 T0 n0 ad0 t ls st h) (k2 : ¬ x = 0 → x_G p l e R s m args below meth c Q D cI cZ cO A L0 T0 n0 ad0 (pc + 3) ls st h) : x_G p l e R s m args below meth c Q D cI cZ cO A L0 T0 n0 ad0 pc ls (.int x :: st) h := by
  intro H locs cells slots ad lsR hI hL hc hs ha
  exact lv_if_eq hx hb hd ht (fun q => k1 q H locs cells slots ad lsR hI hL hc hs ha) (fun q => k2 q H locs cells slots ad lsR hI hL hc hs ha)
theorem s_icmp_ne (hx : p.tables.exec = Jvm.exec) (hb : c.code = cc) {x y : Int32} {off : Int} {t : Nat} (ht : (pc : Int) + off = (t : Int)) (hd : decode cc pc = .ok (.if_icmp .ne off, 3)) (k1 : ¬ x = y → x_G p l e R s m args below meth c Q D cI cZ cO A L0 T0 n0 ad0 t ls st h) (k2 : x = y → x_G p l e R s m args below meth c Q D cI cZ cO A L0 T0 n0 ad0 (pc + 3) ls st h) : x_G p l e R s m args below meth c Q D cI cZ cO A L0 T0 n0 ad0 pc ls (.int y :: .int x :: st) h := by
  intro H locs cells slots ad lsR hI hL hc hs ha
  exact lv_icmp_ne hx hb hd ht (fun q => k1 q H locs cells slots ad lsR hI hL hc hs ha) (fun q => k2 q H locs cells slots ad lsR hI hL hc hs ha)
theorem s_if_ne (hx : p.tables.exec = Jvm.exec) (hb : c.code = cc) {x : Int32} {off : Int} {t : Nat} (ht : (pc : Int) + off = (t : Int)) (hd : decode cc pc = .ok (.ifCond .ne off, 3)) (k1 : ¬ x = 0 → x_G p l e R s m args below meth c Q D cI cZ cO A L0 T0 n0 ad0 t ls st h) (k2 : x = 0 → x_G p l e R s m args below meth c Q D cI cZ cO A L0 T0 n0 ad0 (pc + 3) ls st h) : x_G p l e R s m args below meth c Q D cI cZ cO A L0 T0 n0 ad0 pc ls (.int x :: st) h := by
  intro H locs cells slots ad lsR hI hL hc hs ha
  exact lv_if_ne hx hb hd ht (fun q => k1 q H locs cells slots ad lsR hI hL hc hs ha) (fun q => k2 q H locs cells slots ad lsR hI hL hc hs ha)
theorem s_icmp_lt (hx : p.tables.exec = Jvm.exec) (hb : c.code = cc) {x y : Int32} {off : Int} {t : Nat} (ht : (pc : Int) + off = (t : Int)) (hd : decode cc pc = .ok (.if_icmp .lt off, 3)) (k1 : x < y → x_G p l e R s m args below meth c Q D cI cZ cO A L0 T0 n0 ad0 t ls st h) (k2 : ¬ x < y → x_G p l e R s m args below meth c Q D cI cZ cO A L0 T0 n0 ad0 (pc + 3) ls st h) : x_G p l e R s m args below meth c Q D cI cZ cO A L0 T0 n0 ad0 pc ls (.int y :: .int x :: st) h := by
  intro H locs cells slots ad lsR hI hL hc hs ha
  exact lv_icmp_lt hx hb hd ht (fun q => k1 q H locs cells slots ad lsR hI hL hc hs ha) (fun q => k2 q H locs cells slots ad lsR hI hL hc hs ha)
theorem s_if_lt (hx : p.tables.exec = Jvm.exec) (hb : c.code = cc) {x : Int32} {off : Int} {t : Nat} (ht : (pc : Int) + off = (t : Int)) (hd : decode cc pc = .ok (.ifCond .lt off, 3)) (k1 : x < 0 → x_G p l e R s m args below meth c Q D cI cZ cO A L0 T0 n0 ad0 t ls st h) (k2 : ¬ x < 0 → x_G p l e R s m args below meth c Q D cI cZ cO A L0 T0 n0 ad0 (pc + 3) ls st h) : x_G p l e R s m args below meth c Q D cI cZ cO A L0 T0 n0 ad0 pc ls (.int x :: st) h := by
  intro H locs cells slots ad lsR hI hL hc hs ha
  exact lv_if_lt hx hb hd ht (fun q => k1 q H locs cells slots ad lsR hI hL hc hs ha) (fun q => k2 q H locs cells slots ad lsR hI hL hc hs ha)
theorem s_icmp_ge (hx : p.tables.exec = Jvm.exec) (hb : c.code = cc) {x y : Int32} {off : Int} {t : Nat} (ht : (pc : Int) + off = (t : Int)) (hd : decode cc pc = .ok (.if_icmp .ge off, 3)) (k1 : y ≤ x → x_G p l e R s m args below meth c Q D cI cZ cO A L0 T0 n0 ad0 t ls st h) (k2 : ¬ y ≤ x → x_G p l e R s m args below meth c Q D cI cZ cO A L0 T0 n0 ad0 (pc + 3) ls st h) : x_G p l e R s m args below meth c Q D cI cZ cO A L0 T0 n0 ad0 pc ls (.int y :: .int x :: st) h := by
  intro H locs cells slots ad lsR hI hL hc hs ha
  exact lv_icmp_ge hx hb hd ht (fun q => k1 q H locs cells slots ad lsR hI hL hc hs ha) (fun q => k2 q H locs cells slots ad lsR hI hL hc hs ha)
theorem s_if_ge (hx : p.tables.exec = Jvm.exec) (hb : c.code = cc) {x : Int32} {off : Int} {t : Nat} (ht : (pc : Int) + off = (t : Int)) (hd : decode cc pc = .ok (.ifCond .ge off, 3)) (k1 : 0 ≤ x → x_G p l e R s m args below meth c Q D cI cZ cO A L0 T0 n0 ad0 t ls st h) (k2 : ¬ 0 ≤ x → x_G p l e R s m args below meth c Q D cI cZ cO A L0 T0 n0 ad0 (pc + 3) ls st h) : x_G p l e R s m args below meth c Q D cI cZ cO A L0 T0 n0 ad0 pc ls (.int x :: st) h := by
  intro H locs cells slots ad lsR hI hL hc hs ha
  exact lv_if_ge hx hb hd ht (fun q => k1 q H locs cells slots ad lsR hI hL hc hs ha) (fun q => k2 q H locs cells slots ad lsR hI hL hc hs ha)
theorem s_icmp_gt (hx : p.tables.exec = Jvm.exec) (hb : c.code = cc) {x y : Int32} {off : Int} {t : Nat} (ht : (pc : Int) + off = (t : Int)) (hd : decode cc pc = .ok (.if_icmp .gt off, 3)) (k1 : y < x → x_G p l e R s m args below meth c Q D cI cZ cO A L0 T0 n0 ad0 t ls st h) (k2 : ¬ y < x → x_G p l e R s m args below meth c Q D cI cZ cO A L0 T0 n0 ad0 (pc + 3) ls st h) : x_G p l e R s m args below meth c Q D cI cZ cO A L0 T0 n0 ad0 pc ls (.int y :: .int x :: st) h := by
  intro H locs cells slots ad lsR hI hL hc hs ha
  exact lv_icmp_gt hx hb hd ht (fun q => k1 q H locs cells slots ad lsR hI hL hc hs ha) (fun q => k2 q H locs cells slots ad lsR hI hL hc hs ha)
theorem s_if_gt (hx : p.tables.exec = Jvm.exec) (hb : c.code = cc) {x : Int32} {off : Int} {t : Nat} (ht : (pc : Int) + off = (t : Int)) (hd : decode cc pc = .ok (.ifCond .gt off, 3)) (k1 : 0 < x → x_G p l e R s m args below meth c Q D cI cZ cO A L0 T0 n0 ad0 t ls st h) (k2 : ¬ 0 < x → x_G p l e R s m args below meth c Q D cI cZ cO A L0 T0 n0 ad0 (pc + 3) ls st h) : x_G p l e R s m args below meth c Q D cI cZ cO A L0 T0 n0 ad0 pc ls (.int x :: st) h := by
  intro H locs cells slots ad lsR hI hL hc hs ha
  exact lv_if_gt hx hb hd ht (fun q => k1 q H locs cells slots ad lsR hI hL hc hs ha) (fun q => k2 q H locs cells slots ad lsR hI hL hc hs ha)
theorem s_icmp_le (hx : p.tables.exec = Jvm.exec) (hb : c.code = cc) {x y : Int32} {off : Int} {t : Nat} (ht : (pc : Int) + off = (t : Int)) (hd : decode cc pc = .ok (.if_icmp .le off, 3)) (k1 : x ≤ y → x_G p l e R s m args below meth c Q D cI cZ cO A L0 T0 n0 ad0 t ls st h) (k2 : ¬ x ≤ y → x_G p l e R s m args below meth c Q D cI cZ cO A L0 T0 n0 ad0 (pc + 3) ls st h) : x_G p l e R s m args below meth c Q D cI cZ cO A L0 T0 n0 ad0 pc ls (.int y :: .int x :: st) h := by
  intro H locs cells slots ad lsR hI hL hc hs ha
  exact lv_icmp_le hx hb hd ht (fun q => k1 q H locs cells slots ad lsR hI hL hc hs ha) (fun q => k2 q H locs cells slots ad lsR hI hL hc hs ha)
theorem s_if_le (hx : p.tables.exec = Jvm.exec) (hb : c.code = cc) {x : Int32} {off : Int} {t : Nat} (ht : (pc : Int) + off = (t : Int)) (hd : decode cc pc = .ok (.ifCond .le off, 3)) (k1 : x ≤ 0 → x_G p l e R s m args below meth c Q D cI cZ cO A L0 T0 n0 ad0 t ls st h) (k2 : ¬ x ≤ 0 → x_G p l e R s m args below meth c Q D cI cZ cO A L0 T0 n0 ad0 (pc + 3) ls st h) : x_G p l e R s m args below meth c Q D cI cZ cO A L0 T0 n0 ad0 pc ls (.int x :: st) h := by
  intro H locs cells slots ad lsR hI hL hc hs ha
  exact lv_if_le hx hb hd ht (fun q => k1 q H locs cells slots ad lsR hI hL hc hs ha) (fun q => k2 q H locs cells slots ad lsR hI hL hc hs ha)
theorem s_goto (hx : p.tables.exec = Jvm.exec) (hb : c.code = cc) {off : Int} {t : Nat} (ht : (pc : Int) + off = (t : Int)) (hd : decode cc pc = .ok (.goto off, 3)) (k : x_G p l e R s m args below meth c Q D cI cZ cO A L0 T0 n0 ad0 t ls st h) : x_G p l e R s m args below meth c Q D cI cZ cO A L0 T0 n0 ad0 pc ls st h := by
  intro H locs cells slots ad lsR hI hL hc hs ha
  exact lv_goto hx hb hd ht (k H locs cells slots ad lsR hI hL hc hs ha)
theorem s_dup (hx : p.tables.exec = Jvm.exec) (hb : c.code = cc) {x : Value} (h1 : x.category = 1) (hd : decode cc pc = .ok (.dup, 1)) (k : x_G p l e R s m args below meth c Q D cI cZ cO A L0 T0 n0 ad0 (pc + 1) ls (x :: x :: st) h) : x_G p l e R s m args below meth c Q D cI cZ cO A L0 T0 n0 ad0 pc ls (x :: st) h := by
  intro H locs cells slots ad lsR hI hL hc hs ha
  exact lv_dup hx hb hd (by rw [x_tr_cat]; exact h1) (k H locs cells slots ad lsR hI hL hc hs ha)
theorem s_dup2 (hx : p.tables.exec = Jvm.exec) (hb : c.code = cc) {x y : Value} (h1 : x.category = 1) (h2 : y.category = 1) (hd : decode cc pc = .ok (.dup2, 1)) (k : x_G p l e R s m args below meth c Q D cI cZ cO A L0 T0 n0 ad0 (pc + 1) ls (x :: y :: x :: y :: st) h) : x_G p l e R s m args below meth c Q D cI cZ cO A L0 T0 n0 ad0 pc ls (x :: y :: st) h := by
  intro H locs cells slots ad lsR hI hL hc hs ha
  exact lv_dup2_11 hx hb hd (by rw [x_tr_cat]; exact h1) (by rw [x_tr_cat]; exact h2) (k H locs cells slots ad lsR hI hL hc hs ha)
theorem s_pop (hx : p.tables.exec = Jvm.exec) (hb : c.code = cc) {x : Value} (h1 : x.category = 1) (hd : decode cc pc = .ok (.pop, 1)) (k : x_G p l e R s m args below meth c Q D cI cZ cO A L0 T0 n0 ad0 (pc + 1) ls (st) h) : x_G p l e R s m args below meth c Q D cI cZ cO A L0 T0 n0 ad0 pc ls (x :: st) h := by
  intro H locs cells slots ad lsR hI hL hc hs ha
  exact lv_pop hx hb hd (by rw [x_tr_cat]; exact h1) (k H locs cells slots ad lsR hI hL hc hs ha)
theorem s_get (hx : p.tables.exec = Jvm.exec) (hb : c.code = cc) (hown : s.vm.findClass (x_N cn) = some m.cls) (hts : ∀ w ∈ x_tb, w.before args s = true) {i a b : Nat} (ha8 : a < 8) (hbN : b < (x_C a).2.2) (hlk : Cond.fieldLink (x_N cn) i (x_T a b).1 (x_T a b).2.1 (x_T a b).2.2.1 ∈ x_tb) {x : Nat} {rf : List (Option Nat)} (hq : h.1[x]? = some (0, a, rf)) (hd : decode cc pc = .ok (.getfield i, 3)) {v : Value} (hv : ∀ ad, x_fv ad h.2 x a rf b = x_tr ad v) (k : x_G p l e R s m args below meth c Q D cI cZ cO A L0 T0 n0 ad0 (pc + 3) ls (v :: st) h) : x_G p l e R s m args below meth c Q D cI cZ cO A L0 T0 n0 ad0 pc ls (.ref x :: st) h := by
  intro H locs cells slots ad lsR hI hL hc hs ha
  have hk := (k H locs cells slots ad lsR hI hL hc hs ha)
  refine va_get hx hb hts (x_in_ok a ha8) hown hI.1 hI.2.1 x (x_W_at hq) (x_cl_at a ha8) b hbN (hts _ hlk) (fun _ z => z) (by rw [x_fs_at hbN, hv ad]) hd hk
theorem s_put (hx : p.tables.exec = Jvm.exec) (hb : c.code = cc) (hown : s.vm.findClass (x_N cn) = some m.cls) (hts : ∀ w ∈ x_tb, w.before args s = true) {i a b : Nat} (ha8 : a < 8) (hbN : b < (x_C a).2.2) (hlk : Cond.fieldLink (x_N cn) i (x_T a b).1 (x_T a b).2.1 (x_T a b).2.2.1 ∈ x_tb) {x : Nat} {rf : List (Option Nat)} {y : Int32} (hq : h.1[x]? = some (0, a, rf)) (hkd : x_kd a b ≠ 2) (hfin : (x_T a b).2.2.2 = false) (hn : narrow (x_ty a b) (.int y) = .int y) (hf : fits (x_ty a b) (.int y) = true) (hd : decode cc pc = .ok (.putfield i, 3)) (k : x_G p l e R s m args below meth c Q D cI cZ cO A L0 T0 n0 ad0 (pc + 3) ls st (h.1, x_up h.2 x b y)) : x_G p l e R s m args below meth c Q D cI cZ cO A L0 T0 n0 ad0 pc ls (.int y :: .ref x :: st) h := by
  intro H locs cells slots ad lsR hI hL hc hs ha
  refine va_put hx hb hts (x_in_ok a ha8) (x_ty a) (x_ty_ok a ha8) (x_nm_ok a ha8) hown hI.1 hI.2.1 hI.2.2.1 hI.2.2.2 x (x_W_at hq) (x_cl_at a ha8) b hbN (hts _ hlk) (fun _ z => z) hfin (x_ty_ok a ha8 b hbN) hn hf (by rw [x_fs_len]; exact hbN) hd (fun H1 locs1 g1 g2 g3 => ?_)
  have e1 : (x_W cI cZ cO ad h).set x (ad x, .inr (a, (x_fs ad h.2 x a rf).set b (.int y))) = x_W cI cZ cO ad (h.1, x_up h.2 x b y) := by
    rw [x_fs_set hkd]
    exact x_W_upd (S := h.1) (V := h.2) (V' := x_up h.2 x b y) (q := (0, a, rf)) hq (fun j hj => x_up_ne hj)
  have g1 := Eq.mp (congrArg (fun w => va_P D x_cl w H1) e1) g1
  have g2 := Eq.mp (congrArg (fun w => va_D A w) e1) g2
  exact k H1 locs1 cells slots ad lsR ⟨hI.1, g1, g2, g3⟩ hL hc hs ha
theorem s_putR (hx : p.tables.exec = Jvm.exec) (hb : c.code = cc) (hown : s.vm.findClass (x_N cn) = some m.cls) (hts : ∀ w ∈ x_tb, w.before args s = true) {i a b : Nat} (ha8 : a < 8) (hbN : b < (x_C a).2.2) (hlk : Cond.fieldLink (x_N cn) i (x_T a b).1 (x_T a b).2.1 (x_T a b).2.2.1 ∈ x_tb) {x y : Nat} {rf : List (Option Nat)} (hq : h.1[x]? = some (0, a, rf)) (hkd : x_kd a b = 2) (hrl : b < rf.length) (hfin : (x_T a b).2.2.2 = true) (hdc : (x_T a b).1 = x_N cn) (hini : meth.name = "<init>") (hrk : refKind (x_ty a b) = true) (hd : decode cc pc = .ok (.putfield i, 3)) (k : x_G p l e R s m args below meth c Q D cI cZ cO A L0 T0 n0 ad0 (pc + 3) ls st (h.1.set x (0, a, rf.set b (some y)), h.2)) : x_G p l e R s m args below meth c Q D cI cZ cO A L0 T0 n0 ad0 pc ls (.ref y :: .ref x :: st) h := by
  intro H locs cells slots ad lsR hI hL hc hs ha
  have hn : narrow (x_ty a b) (.ref (ad y)) = .ref (ad y) := by cases x_ty a b <;> rfl
  have hf : fits (x_ty a b) (.ref (ad y)) = true := by
    revert hrk
    cases x_ty a b <;> intro hrk <;> first | rfl | cases hrk
  refine va_putF hx hb hts (x_in_ok a ha8) (x_ty a) (x_ty_ok a ha8) (x_nm_ok a ha8) hown hI.1 hI.2.1 hI.2.2.1 hI.2.2.2 x (x_W_at hq) (x_cl_at a ha8) b hbN (hts _ hlk) (fun _ z => z) hfin hini hdc (x_ty_ok a ha8 b hbN) hn hf (by rw [x_fs_len]; exact hbN) hd (fun H1 locs1 g1 g2 g3 => ?_)
  have e1 : (x_W cI cZ cO ad h).set x (ad x, .inr (a, (x_fs ad h.2 x a rf).set b (.ref (ad y)))) = x_W cI cZ cO ad (h.1.set x (0, a, rf.set b (some y)), h.2) := by
    rw [x_fs_setR hkd hrl]
    exact x_W_upS (S := h.1) (V := h.2) (q := (0, a, rf.set b (some y))) (x_lt hq)
  have g1 := Eq.mp (congrArg (fun w => va_P D x_cl w H1) e1) g1
  have g2 := Eq.mp (congrArg (fun w => va_D A w) e1) g2
  refine k H1 locs1 cells slots ad lsR ⟨hI.1, g1, g2, g3⟩ hL (by simpa using hc) ?_ (by simpa using ha)
  rw [hs]
  exact (x_sl_set (S := h.1) (V := h.2) (q' := (0, a, rf.set b (some y))) hq rfl).symm
theorem s_iald (hx : p.tables.exec = Jvm.exec) (hb : c.code = cc) {x n : Nat} {rf : List (Option Nat)} {i : Int32} (hq : h.1[x]? = some (1, n, rf)) (hin : vp_in i n) (hd : decode cc pc = .ok (.iaload, 1)) (k : x_G p l e R s m args below meth c Q D cI cZ cO A L0 T0 n0 ad0 (pc + 1) ls (.int (h.2 x i.toNatClampNeg) :: st) h) : x_G p l e R s m args below meth c Q D cI cZ cO A L0 T0 n0 ad0 pc ls (.int i :: .ref x :: st) h := by
  intro H locs cells slots ad lsR hI hL hc hs ha
  exact va_iald hx hb hI.1 hI.2.1 x 0 (x_W_at hq) rfl hin hd (k H locs cells slots ad lsR hI hL hc hs ha)
theorem s_zald (hx : p.tables.exec = Jvm.exec) (hb : c.code = cc) {x n : Nat} {rf : List (Option Nat)} {i : Int32} (hq : h.1[x]? = some (2, n, rf)) (hin : vp_in i n) (hd : decode cc pc = .ok (.baload, 1)) (k : x_G p l e R s m args below meth c Q D cI cZ cO A L0 T0 n0 ad0 (pc + 1) ls (.int (h.2 x i.toNatClampNeg) :: st) h) : x_G p l e R s m args below meth c Q D cI cZ cO A L0 T0 n0 ad0 pc ls (.int i :: .ref x :: st) h := by
  intro H locs cells slots ad lsR hI hL hc hs ha
  exact va_zald hx hb hI.1 hI.2.1 x 1 (x_W_at hq) rfl hin hd (k H locs cells slots ad lsR hI hL hc hs ha)
theorem s_iast (hx : p.tables.exec = Jvm.exec) (hb : c.code = cc) {x n : Nat} {rf : List (Option Nat)} {i y : Int32} (hq : h.1[x]? = some (1, n, rf)) (hin : vp_in i n) (hd : decode cc pc = .ok (.iastore, 1)) (k : x_G p l e R s m args below meth c Q D cI cZ cO A L0 T0 n0 ad0 (pc + 1) ls st (h.1, x_up h.2 x i.toNatClampNeg y)) : x_G p l e R s m args below meth c Q D cI cZ cO A L0 T0 n0 ad0 pc ls (.int y :: .int i :: .ref x :: st) h := by
  intro H locs cells slots ad lsR hI hL hc hs ha
  refine va_iast hx hb hI.1 hI.2.1 hI.2.2.1 hI.2.2.2 x 0 (x_W_at hq) rfl hin hd (fun H1 locs1 g1 g2 g3 => ?_)
  have e1 : (x_W cI cZ cO ad h).set x (ad x, .inl (cI, n, .inl (upd (h.2 x) i.toNatClampNeg y))) = x_W cI cZ cO ad (h.1, x_up h.2 x i.toNatClampNeg y) := by
    rw [← x_up_eq]
    exact x_W_upd (S := h.1) (V := h.2) (V' := x_up h.2 x i.toNatClampNeg y) (q := (1, n, rf)) hq (fun j hj => x_up_ne hj)
  rw [e1] at g1 g2
  exact k H1 locs1 cells slots ad lsR ⟨hI.1, g1, g2, g3⟩ hL hc hs ha
theorem s_zast (hx : p.tables.exec = Jvm.exec) (hb : c.code = cc) {x n : Nat} {rf : List (Option Nat)} {i y : Int32} (hq : h.1[x]? = some (2, n, rf)) (hin : vp_in i n) (hy : y = 0 ∨ y = 1) (hd : decode cc pc = .ok (.bastore, 1)) (k : x_G p l e R s m args below meth c Q D cI cZ cO A L0 T0 n0 ad0 (pc + 1) ls st (h.1, x_up h.2 x i.toNatClampNeg y)) : x_G p l e R s m args below meth c Q D cI cZ cO A L0 T0 n0 ad0 pc ls (.int y :: .int i :: .ref x :: st) h := by
  intro H locs cells slots ad lsR hI hL hc hs ha
  refine va_zast hx hb hI.1 hI.2.1 hI.2.2.1 hI.2.2.2 x 1 (x_W_at hq) rfl hin hd (fun H1 locs1 g1 g2 g3 => ?_)
  have e0 : vp_nar .boolean y = y := by rcases hy with rfl | rfl <;> rfl
  rw [e0] at g1 g2
  have e1 : (x_W cI cZ cO ad h).set x (ad x, .inl (cZ, n, .inl (upd (h.2 x) i.toNatClampNeg y))) = x_W cI cZ cO ad (h.1, x_up h.2 x i.toNatClampNeg y) := by
    rw [← x_up_eq]
    exact x_W_upd (S := h.1) (V := h.2) (V' := x_up h.2 x i.toNatClampNeg y) (q := (2, n, rf)) hq (fun j hj => x_up_ne hj)
  rw [e1] at g1 g2
  exact k H1 locs1 cells slots ad lsR ⟨hI.1, g1, g2, g3⟩ hL hc hs ha
theorem s_aald (hx : p.tables.exec = Jvm.exec) (hb : c.code = cc) {x n y : Nat} {rf : List (Option Nat)} {i : Int32} (hq : h.1[x]? = some (3, n, rf)) (hin : vp_in i n) (hy : rf[i.toNatClampNeg]? = some (some y)) (hd : decode cc pc = .ok (.aaload, 1)) (k : x_G p l e R s m args below meth c Q D cI cZ cO A L0 T0 n0 ad0 (pc + 1) ls (.ref y :: st) h) : x_G p l e R s m args below meth c Q D cI cZ cO A L0 T0 n0 ad0 pc ls (.int i :: .ref x :: st) h := by
  intro H locs cells slots ad lsR hI hL hc hs ha
  have hk := (k H locs cells slots ad lsR hI hL hc hs ha)
  refine va_aldq (C := RX4) hx hb hI.1 hI.2.1 x 2 (x_W_at hq) rfl hin hd ?_
  simp only [hy, Option.getD_some, Option.map_some, va_rf]
  exact hk
theorem s_aast (hx : p.tables.exec = Jvm.exec) (hb : c.code = cc) {x n y : Nat} {rf rf2 : List (Option Nat)} {i : Int32} (hq : h.1[x]? = some (3, n, rf)) (hv : h.1[y]? = some (0, 4, rf2)) (hin : vp_in i n) (hl : i.toNatClampNeg < rf.length) (hd : decode cc pc = .ok (.aastore, 1)) (k : x_G p l e R s m args below meth c Q D cI cZ cO A L0 T0 n0 ad0 (pc + 1) ls st (h.1.set x (3, n, rf.set i.toNatClampNeg (some y)), h.2)) : x_G p l e R s m args below meth c Q D cI cZ cO A L0 T0 n0 ad0 pc ls (.ref y :: .int i :: .ref x :: st) h := by
  intro H locs cells slots ad lsR hI hL hc hs ha
  refine va_astq hx hb hI.1 hI.2.1 hI.2.2.1 hI.2.2.2 x 2 y 4 (r := (RX4, TX4, 5)) (x_W_at hq) rfl (x_W_at hv) rfl hin hd (fun H1 locs1 g1 g2 g3 => ?_)
  have e0 : va_up (fun j => ((rf[j]?).getD none).map ad) i.toNatClampNeg (some (ad y)) = fun j => (((rf.set i.toNatClampNeg (some y))[j]?).getD none).map ad := by
    funext j
    by_cases hj : j = i.toNatClampNeg
    · subst hj; simp [va_up, hl]
    · simp [va_up, hj, List.getElem?_set, Ne.symm hj]
  have e1 : (x_W cI cZ cO ad h).set x (ad x, .inl (cO, n, .inr (.inr (.inr (.inr (va_up (fun j => ((rf[j]?).getD none).map ad) i.toNatClampNeg (some (ad y)))))))) = x_W cI cZ cO ad (h.1.set x (3, n, rf.set i.toNatClampNeg (some y)), h.2) := by
    rw [e0]
    exact x_W_upS (S := h.1) (V := h.2) (q := (3, n, rf.set i.toNatClampNeg (some y))) (x_lt hq)
  rw [e1] at g1 g2
  refine k H1 locs1 cells slots ad lsR ⟨hI.1, g1, g2, g3⟩ hL (by simpa using hc) ?_ (by simpa using ha)
  rw [hs]
  exact (x_sl_set (S := h.1) (V := h.2) (q' := (3, n, rf.set i.toNatClampNeg (some y))) hq rfl).symm
theorem s_alen1 (hx : p.tables.exec = Jvm.exec) (hb : c.code = cc) {x n : Nat} {rf : List (Option Nat)} (hq : h.1[x]? = some (1, n, rf)) (hd : decode cc pc = .ok (.arraylength, 1)) (k : x_G p l e R s m args below meth c Q D cI cZ cO A L0 T0 n0 ad0 (pc + 1) ls (.int (Int32.ofNat n) :: st) h) : x_G p l e R s m args below meth c Q D cI cZ cO A L0 T0 n0 ad0 pc ls (.ref x :: st) h := by
  intro H locs cells slots ad lsR hI hL hc hs ha
  exact va_alen hx hb hI.1 hI.2.1 x 0 (x_W_at hq) rfl rfl hd (k H locs cells slots ad lsR hI hL hc hs ha)
theorem s_alen2 (hx : p.tables.exec = Jvm.exec) (hb : c.code = cc) {x n : Nat} {rf : List (Option Nat)} (hq : h.1[x]? = some (2, n, rf)) (hd : decode cc pc = .ok (.arraylength, 1)) (k : x_G p l e R s m args below meth c Q D cI cZ cO A L0 T0 n0 ad0 (pc + 1) ls (.int (Int32.ofNat n) :: st) h) : x_G p l e R s m args below meth c Q D cI cZ cO A L0 T0 n0 ad0 pc ls (.ref x :: st) h := by
  intro H locs cells slots ad lsR hI hL hc hs ha
  exact va_alen hx hb hI.1 hI.2.1 x 1 (x_W_at hq) rfl rfl hd (k H locs cells slots ad lsR hI hL hc hs ha)
theorem s_objInit (hx : p.tables.exec = Jvm.exec) (hb : c.code = cc) (hown : s.vm.findClass (x_N cn) = some m.cls) (hts : ∀ w ∈ x_tb, w.before args s = true) {i x : Nat} (hlk : Cond.methodLink (x_N cn) i Lib.objectInit ∈ x_tb) (hml : c.maxLocals = ls.length) (hst : st.length ≤ 4) (hF : 1 ≤ R.frames) (hLo : 200 ≤ R.locals) (hd : decode cc pc = .ok (.invokespecial i, 3)) (k : x_G p l e R s m args below meth c Q D cI cZ cO A L0 T0 n0 ad0 (pc + 3) ls st h) : x_G p l e R s m args below meth c Q D cI cZ cO A L0 T0 n0 ad0 pc ls (.ref x :: st) h := by
  intro H locs cells slots ad lsR hI hL hc hs ha
  have hk := (k H locs cells slots ad lsR hI hL hc hs ha)
  have hcs := x_catsum st ad
  refine W.objInit hx hb hown (hts _ hlk) (hts _ (x_ok1_in x_obj_ok.1)) (hts _ (x_ok1_in x_obj_ok.2)) (g := F0 m pc lsR ((.ref x :: st).map (x_tr ad))) (a := ad x) (rest := st.map (x_tr ad)) rfl (by show lsR.size = _; rw [hL.1, hml]) rfl hd hF (by show 2 * 0 + _ + 12 ≤ _; omega) hk
theorem s_mmax (hx : p.tables.exec = Jvm.exec) (hb : c.code = cc) (hown : s.vm.findClass (x_N cn) = some m.cls) (hts : ∀ w ∈ x_tb, w.before args s = true) {i : Nat} {x y : Int32} (hlk : Cond.methodLink (x_N cn) i Lib.Math.max.name ∈ x_tb) (hml : c.maxLocals = ls.length) (hst : st.length ≤ 50) (hF : 1 ≤ R.frames) (hLo : 200 ≤ R.locals) (hr1 : h.1.length ≤ R.cells + L0) (hr2 : x_sl h ≤ R.slots + T0) (hd : decode cc pc = .ok (.invokestatic i, 3)) (k : x_G p l e R s m args below meth c Q D cI cZ cO A L0 T0 n0 ad0 (pc + 3) ls (.int (if x < y then y else x) :: st) h) : x_G p l e R s m args below meth c Q D cI cZ cO A L0 T0 n0 ad0 pc ls (.int y :: .int x :: st) h := by
  intro H locs cells slots ad lsR hI hL hc hs ha
  have hk := (k H locs cells slots ad lsR hI hL hc hs ha)
  have hcs := x_catsum st ad
  exact va_mmax hx hb (by rw [hml, hL.1]) hown (hts _ hlk) (hts _ (x_ok1_in x_mth_ok.2.1)) (hts _ (x_ok1_in x_mth_ok.1)) (hts _ (x_ok1_in x_mth_ok.2.2.1)) hF (by omega) (by omega) (by omega) hd hk
theorem s_mmin (hx : p.tables.exec = Jvm.exec) (hb : c.code = cc) (hown : s.vm.findClass (x_N cn) = some m.cls) (hts : ∀ w ∈ x_tb, w.before args s = true) {i : Nat} {x y : Int32} (hlk : Cond.methodLink (x_N cn) i Lib.Math.min.name ∈ x_tb) (hml : c.maxLocals = ls.length) (hst : st.length ≤ 50) (hF : 1 ≤ R.frames) (hLo : 200 ≤ R.locals) (hr1 : h.1.length ≤ R.cells + L0) (hr2 : x_sl h ≤ R.slots + T0) (hd : decode cc pc = .ok (.invokestatic i, 3)) (k : x_G p l e R s m args below meth c Q D cI cZ cO A L0 T0 n0 ad0 (pc + 3) ls (.int (if y < x then y else x) :: st) h) : x_G p l e R s m args below meth c Q D cI cZ cO A L0 T0 n0 ad0 pc ls (.int y :: .int x :: st) h := by
  intro H locs cells slots ad lsR hI hL hc hs ha
  have hk := (k H locs cells slots ad lsR hI hL hc hs ha)
  have hcs := x_catsum st ad
  exact va_mmin hx hb (by rw [hml, hL.1]) hown (hts _ hlk) (hts _ (x_ok1_in x_mth_ok.2.2.2.1)) (hts _ (x_ok1_in x_mth_ok.1)) (hts _ (x_ok1_in x_mth_ok.2.2.2.2)) hF (by omega) (by omega) (by omega) hd hk
theorem s_copy (hx : p.tables.exec = Jvm.exec) (hb : c.code = cc) (hown : s.vm.findClass (x_N cn) = some m.cls) (hts : ∀ w ∈ x_tb, w.before args s = true) {i x y n0' n1 : Nat} {rf rf2 : List (Option Nat)} {sp dp n : Int32} (hlk : Cond.methodLink (x_N cn) i arraycopyName ∈ x_tb) (hml : c.maxLocals = ls.length) (hst : st.length ≤ 4) (hF : 1 ≤ R.frames) (hLo : 200 ≤ R.locals) (hq : h.1[x]? = some (1, n0', rf)) (hq2 : h.1[y]? = some (1, n1, rf2)) (h1 : ¬ sp < 0) (h2 : ¬ dp < 0) (h3 : ¬ n < 0) (h4 : sp.toNatClampNeg + n.toNatClampNeg ≤ n0') (h5 : dp.toNatClampNeg + n.toNatClampNeg ≤ n1) (hd : decode cc pc = .ok (.invokestatic i, 3)) (k : x_G p l e R s m args below meth c Q D cI cZ cO A L0 T0 n0 ad0 (pc + 3) ls st (h.1, fun q => if q = y then va_cpy (h.2 x) (h.2 y) sp.toNatClampNeg dp.toNatClampNeg n.toNatClampNeg else h.2 q)) : x_G p l e R s m args below meth c Q D cI cZ cO A L0 T0 n0 ad0 pc ls (.int n :: .int dp :: .ref y :: .int sp :: .ref x :: st) h := by
  intro H locs cells slots ad lsR hI hL hc hs ha
  have hcs := x_catsum st ad
  have hnw : nativeFrameWords "java/lang/System" "arraycopy" 5 ≤ 100 := by decide +kernel
  refine va_copyi hx hb (by rw [hml, hL.1]) hown (hts _ hlk) (hts _ (x_ok1_in x_cpy_ok.1)) (hts _ (x_ok1_in x_cpy_ok.2.1)) (hts _ (x_ok1_in x_cpy_ok.2.2)) hI.1 hI.2.1 hI.2.2.1 hI.2.2.2 x y 0 0 (ty := .int) (x_W_at hq) (x_W_at hq2) rfl rfl rfl h1 h2 h3 h4 h5 (fun _ _ => rfl) hF (by omega) hd (fun H1 locs1 g1 g2 g3 => ?_)
  have e1 : (x_W cI cZ cO ad h).set y (ad y, .inl (cI, n1, .inl (va_cpy (h.2 x) (h.2 y) sp.toNatClampNeg dp.toNatClampNeg n.toNatClampNeg))) = x_W cI cZ cO ad (h.1, fun q => if q = y then va_cpy (h.2 x) (h.2 y) sp.toNatClampNeg dp.toNatClampNeg n.toNatClampNeg else h.2 q) := by
    have := x_W_upd (cI := cI) (cZ := cZ) (cO := cO) (ad := ad) (S := h.1) (V := h.2) (V' := fun q => if q = y then va_cpy (h.2 x) (h.2 y) sp.toNatClampNeg dp.toNatClampNeg n.toNatClampNeg else h.2 q) (q := (1, n1, rf2)) hq2 (fun j hj => by simp [hj])
    rw [← this]
    simp [x_cell]
  rw [e1] at g1 g2
  exact k H1 locs1 cells slots ad lsR ⟨hI.1, g1, g2, g3⟩ hL hc hs ha
theorem s_new (hx : p.tables.exec = Jvm.exec) (hb : c.code = cc) (hown : s.vm.findClass (x_N cn) = some m.cls) (hts : ∀ w ∈ x_tb, w.before args s = true) {i a : Nat} (hr1 : h.1.length + 1 ≤ R.cells + L0) (hA : ∀ y, s.heap.size ≤ y → A y) (hok : x_rok h.1.length ls st h.1 = true) (ha8 : a < 8) (hr2 : x_sl h + (x_C a).2.2 ≤ R.slots + T0) (hlk : Cond.classLink (x_N cn) i (x_N a) ∈ x_tb) (hd : decode cc pc = .ok (.new i, 3)) (k : x_G p l e R s m args below meth c Q D cI cZ cO A L0 T0 n0 ad0 (pc + 3) ls (.ref h.1.length :: st) (x_push h.1 h.2 (0, a, List.replicate (x_nf.getD a 0) none))) : x_G p l e R s m args below meth c Q D cI cZ cO A L0 T0 n0 ad0 pc ls st h := by
  intro H locs cells slots ad lsR hI hL hc hs ha
  obtain ⟨⟨o1, o2⟩, o3⟩ : (ls.all (x_rv h.1.length) = true ∧ st.all (x_rv h.1.length) = true) ∧ h.1.all (fun q => q.2.2.all (x_ro h.1.length)) = true := by simpa only [x_rok, Bool.and_eq_true] using hok
  have hadN : ∀ z', x_ad ad0 n0 (x_adp ad h.1.length z') (x_push h.1 h.2 (0, a, List.replicate (x_nf.getD a 0) none)).1.length := fun z' => by
    refine ⟨by simp [x_push]; have := ha.1; omega, fun i hi => ?_, fun q => ?_⟩
    · have := ha.1
      simp [x_adp, Nat.ne_of_lt (Nat.lt_of_lt_of_le hi this), ha.2.1 i hi]
    · have := ha.1
      simp [x_push] at q
      omega
  have hn := List.all_eq_true.mp x_new_ok a (List.mem_range.mpr ha8)
  simp only [Bool.and_eq_true, decide_eq_true_eq] at hn
  have hfs : ∀ (V : xV) (ad' : Nat → Nat) (z : Nat), (∀ k, V z k = 0) → ∀ j, j < (x_C a).2.2 → defaultValue (x_ty a j) = vp_V (x_fs ad' V z a (List.replicate (x_nf.getD a 0) none)) j := by
    intro V ad' z hV j hj
    have e1 : vp_V (x_fs ad' V z a (List.replicate (x_nf.getD a 0) none)) j = x_fv ad' V z a (List.replicate (x_nf.getD a 0) none) j := by simp [vp_V, List.getD, x_fs_at hj]
    have hko := List.all_eq_true.mp (x_kok_all a ha8) j (List.mem_range.mpr hj)
    rw [e1]
    unfold x_fv
    simp only [Bool.or_eq_true, Bool.and_eq_true, beq_iff_eq] at hko
    rcases hko with (⟨⟨q1, q2⟩, -⟩ | ⟨⟨q1, q2⟩, -⟩) | ⟨⟨⟨q1, -⟩, -⟩, q2⟩
    · rw [q1, q2, hV]; rfl
    · rw [q1, q2, hV]; rfl
    · rw [if_pos q1]
      have e2 : ((List.replicate (x_nf.getD a 0) (none : Option Nat))[j]?).getD none = none := by
        rw [List.getElem?_replicate]
        split <;> rfl
      rw [e2]
      revert q2
      cases x_ty a j <;> intro q2 <;> first | rfl | cases q2
  refine va_new hx hb hts (x_in_ok a ha8) (x_ty a) (x_ty_ok a ha8) hown (by have := hts _ hlk; rw [← hn.2] at this; exact this) (hts _ (x_ok1_in hn.1.1)) (hts _ (x_ok1_in hn.1.2)) hI.1 hI.2.1 hI.2.2.1 hI.2.2.2 hA (x_cl_at a ha8) (fs := x_fs ad (x_push h.1 h.2 (0, a, List.replicate (x_nf.getD a 0) none)).2 h.1.length a (List.replicate (x_nf.getD a 0) none)) (hfs _ _ _ (fun k => by simp [x_push])) (by omega) (by omega) hd (fun z H1 g1 g2 g3 => ?_)
  have e0 : (.inr (a, x_fs ad (x_push h.1 h.2 (0, a, List.replicate (x_nf.getD a 0) none)).2 h.1.length a (List.replicate (x_nf.getD a 0) none)) : va_E) = x_cell cI cZ cO (x_adp ad h.1.length z) (x_push h.1 h.2 (0, a, List.replicate (x_nf.getD a 0) none)).2 h.1.length (0, a, List.replicate (x_nf.getD a 0) none) := by
    rw [x_cell_ad (by simp [x_ro])]
    rfl
  rw [e0] at g1 g2
  have e1 := x_W_push (cI := cI) (cZ := cZ) (cO := cO) (ad := ad) (S := h.1) (V := h.2) (q := (0, a, List.replicate (x_nf.getD a 0) none)) (a := z) o3
  rw [show x_W cI cZ cO ad h = x_W cI cZ cO ad (h.1, h.2) from rfl, e1] at g1 g2
  have hk := k H1 locs (cells + 1) (slots + (x_C a).2.2) (x_adp ad h.1.length z) lsR ⟨hI.1, g1, g2, g3⟩ (x_L_ro o1 hL) (by simp [x_push]; omega) (by rw [x_sl_push]; show _ = x_sl h + _; rw [← hs]; simp only [x_slots]; omega) (hadN z)
  rw [List.map_cons, x_tr_ro o2] at hk
  have e2 : x_tr (x_adp ad h.1.length z) (.ref h.1.length) = .ref z := by simp [x_tr, x_adp]
  rw [e2] at hk
  exact hk
theorem s_newI (hx : p.tables.exec = Jvm.exec) (hb : c.code = cc) (hown : s.vm.findClass (x_N cn) = some m.cls) (hts : ∀ w ∈ x_tb, w.before args s = true) {n : Int32} (hr1 : h.1.length + 1 ≤ R.cells + L0) (hA : ∀ y, s.heap.size ≤ y → A y) (hok : x_rok h.1.length ls st h.1 = true) (hn0 : ¬ n < 0) (hn1 : n.toNatClampNeg ≤ 1000) (hr2 : x_sl h + n.toNatClampNeg ≤ R.slots + T0) (hd : decode cc pc = .ok (.newarray .int, 2)) (k : x_G p l e R s m args below meth c Q D cI cZ cO A L0 T0 n0 ad0 (pc + 2) ls (.ref h.1.length :: st) (x_push h.1 h.2 (1, n.toNatClampNeg, []))) : x_G p l e R s m args below meth c Q D cI cZ cO A L0 T0 n0 ad0 pc ls (.int n :: st) h := by
  intro H locs cells slots ad lsR hI hL hc hs ha
  obtain ⟨⟨o1, o2⟩, o3⟩ : (ls.all (x_rv h.1.length) = true ∧ st.all (x_rv h.1.length) = true) ∧ h.1.all (fun q => q.2.2.all (x_ro h.1.length)) = true := by simpa only [x_rok, Bool.and_eq_true] using hok
  have hadN : ∀ z', x_ad ad0 n0 (x_adp ad h.1.length z') (x_push h.1 h.2 (1, n.toNatClampNeg, [])).1.length := fun z' => by
    refine ⟨by simp [x_push]; have := ha.1; omega, fun i hi => ?_, fun q => ?_⟩
    · have := ha.1
      simp [x_adp, Nat.ne_of_lt (Nat.lt_of_lt_of_le hi this), ha.2.1 i hi]
    · have := ha.1
      simp [x_push] at q
      omega
  have hby : n.toNatClampNeg * componentBytes .int ≤ 536870912 := Nat.le_trans (Nat.mul_le_mul hn1 (show componentBytes .int ≤ 8 by decide)) (by decide)
  refine va_newa (atype := .int) (ty := .int) (N' := n.toNatClampNeg) (a0 := (n.toNatClampNeg, .inl (fun _ => 0))) hx hb (hts _ (x_ok1_in x_arr_ok.1)) rfl hI.1 hI.2.1 hI.2.2.1 hI.2.2.2 hA (fun cA => rfl) hn0 rfl hby (by omega) (by omega) hd (fun z cA H1 gK g1 g2 g3 => ?_)
  have eA : cA = cI := by
    have q1 := (gK.2 3 _ rfl).2
    have q2 := (hI.1.2 0 _ rfl).2
    exact Option.some.inj (q1.symm.trans q2)
  subst eA
  have e0 : (.inl (cA, n.toNatClampNeg, .inl (fun _ => 0)) : va_E) = x_cell cA cZ cO (x_adp ad h.1.length z) (x_push h.1 h.2 (1, n.toNatClampNeg, [])).2 h.1.length (1, n.toNatClampNeg, []) := by simp [x_cell, x_push]
  rw [e0] at g1 g2
  have e1 := x_W_push (cI := cA) (cZ := cZ) (cO := cO) (ad := ad) (S := h.1) (V := h.2) (q := (1, n.toNatClampNeg, [])) (a := z) o3
  rw [show x_W cA cZ cO ad h = x_W cA cZ cO ad (h.1, h.2) from rfl, e1] at g1 g2
  have hk := k H1 locs (cells + 1) (slots + n.toNatClampNeg) (x_adp ad h.1.length z) lsR ⟨hI.1, g1, g2, g3⟩ (x_L_ro o1 hL) (by simp [x_push]; omega) (by rw [x_sl_push]; show _ = x_sl h + _; rw [← hs]; simp only [x_slots]; omega) (hadN z)
  rw [List.map_cons, x_tr_ro o2] at hk
  have e2 : x_tr (x_adp ad h.1.length z) (.ref h.1.length) = .ref z := by simp [x_tr, x_adp]
  rw [e2] at hk
  exact hk
theorem s_newZ (hx : p.tables.exec = Jvm.exec) (hb : c.code = cc) (hown : s.vm.findClass (x_N cn) = some m.cls) (hts : ∀ w ∈ x_tb, w.before args s = true) {n : Int32} (hr1 : h.1.length + 1 ≤ R.cells + L0) (hA : ∀ y, s.heap.size ≤ y → A y) (hok : x_rok h.1.length ls st h.1 = true) (hn0 : ¬ n < 0) (hn1 : n.toNatClampNeg ≤ 1000) (hr2 : x_sl h + n.toNatClampNeg ≤ R.slots + T0) (hd : decode cc pc = .ok (.newarray .boolean, 2)) (k : x_G p l e R s m args below meth c Q D cI cZ cO A L0 T0 n0 ad0 (pc + 2) ls (.ref h.1.length :: st) (x_push h.1 h.2 (2, n.toNatClampNeg, []))) : x_G p l e R s m args below meth c Q D cI cZ cO A L0 T0 n0 ad0 pc ls (.int n :: st) h := by
  intro H locs cells slots ad lsR hI hL hc hs ha
  obtain ⟨⟨o1, o2⟩, o3⟩ : (ls.all (x_rv h.1.length) = true ∧ st.all (x_rv h.1.length) = true) ∧ h.1.all (fun q => q.2.2.all (x_ro h.1.length)) = true := by simpa only [x_rok, Bool.and_eq_true] using hok
  have hadN : ∀ z', x_ad ad0 n0 (x_adp ad h.1.length z') (x_push h.1 h.2 (2, n.toNatClampNeg, [])).1.length := fun z' => by
    refine ⟨by simp [x_push]; have := ha.1; omega, fun i hi => ?_, fun q => ?_⟩
    · have := ha.1
      simp [x_adp, Nat.ne_of_lt (Nat.lt_of_lt_of_le hi this), ha.2.1 i hi]
    · have := ha.1
      simp [x_push] at q
      omega
  have hby : n.toNatClampNeg * componentBytes .boolean ≤ 536870912 := Nat.le_trans (Nat.mul_le_mul hn1 (show componentBytes .boolean ≤ 8 by decide)) (by decide)
  refine va_newa (atype := .boolean) (ty := .boolean) (N' := n.toNatClampNeg) (a0 := (n.toNatClampNeg, .inl (fun _ => 0))) hx hb (hts _ (x_ok1_in x_arr_ok.2)) rfl hI.1 hI.2.1 hI.2.2.1 hI.2.2.2 hA (fun cA => rfl) hn0 rfl hby (by omega) (by omega) hd (fun z cA H1 gK g1 g2 g3 => ?_)
  have eA : cA = cZ := by
    have q1 := (gK.2 3 _ rfl).2
    have q2 := (hI.1.2 1 _ rfl).2
    exact Option.some.inj (q1.symm.trans q2)
  subst eA
  have e0 : (.inl (cA, n.toNatClampNeg, .inl (fun _ => 0)) : va_E) = x_cell cI cA cO (x_adp ad h.1.length z) (x_push h.1 h.2 (2, n.toNatClampNeg, [])).2 h.1.length (2, n.toNatClampNeg, []) := by simp [x_cell, x_push]
  rw [e0] at g1 g2
  have e1 := x_W_push (cI := cI) (cZ := cA) (cO := cO) (ad := ad) (S := h.1) (V := h.2) (q := (2, n.toNatClampNeg, [])) (a := z) o3
  rw [show x_W cI cA cO ad h = x_W cI cA cO ad (h.1, h.2) from rfl, e1] at g1 g2
  have hk := k H1 locs (cells + 1) (slots + n.toNatClampNeg) (x_adp ad h.1.length z) lsR ⟨hI.1, g1, g2, g3⟩ (x_L_ro o1 hL) (by simp [x_push]; omega) (by rw [x_sl_push]; show _ = x_sl h + _; rw [← hs]; simp only [x_slots]; omega) (hadN z)
  rw [List.map_cons, x_tr_ro o2] at hk
  have e2 : x_tr (x_adp ad h.1.length z) (.ref h.1.length) = .ref z := by simp [x_tr, x_adp]
  rw [e2] at hk
  exact hk
theorem s_newO (hx : p.tables.exec = Jvm.exec) (hb : c.code = cc) (hown : s.vm.findClass (x_N cn) = some m.cls) (hts : ∀ w ∈ x_tb, w.before args s = true) {i : Nat} {n : Int32} (hr1 : h.1.length + 1 ≤ R.cells + L0) (hA : ∀ y, s.heap.size ≤ y → A y) (hok : x_rok h.1.length ls st h.1 = true) (hao : va_AO RX4 s) (hlk : Cond.classLink (x_N cn) i (x_N 4) ∈ x_tb) (hn0 : ¬ n < 0) (hn1 : n.toNatClampNeg ≤ 1000) (hr2 : x_sl h + n.toNatClampNeg ≤ R.slots + T0) (hd : decode cc pc = .ok (.anewarray i, 3)) (k : x_G p l e R s m args below meth c Q D cI cZ cO A L0 T0 n0 ad0 (pc + 3) ls (.ref h.1.length :: st) (x_push h.1 h.2 (3, n.toNatClampNeg, List.replicate n.toNatClampNeg none))) : x_G p l e R s m args below meth c Q D cI cZ cO A L0 T0 n0 ad0 pc ls (.int n :: st) h := by
  intro H locs cells slots ad lsR hI hL hc hs ha
  obtain ⟨⟨o1, o2⟩, o3⟩ : (ls.all (x_rv h.1.length) = true ∧ st.all (x_rv h.1.length) = true) ∧ h.1.all (fun q => q.2.2.all (x_ro h.1.length)) = true := by simpa only [x_rok, Bool.and_eq_true] using hok
  have hadN : ∀ z', x_ad ad0 n0 (x_adp ad h.1.length z') (x_push h.1 h.2 (3, n.toNatClampNeg, List.replicate n.toNatClampNeg none)).1.length := fun z' => by
    refine ⟨by simp [x_push]; have := ha.1; omega, fun i hi => ?_, fun q => ?_⟩
    · have := ha.1
      simp [x_adp, Nat.ne_of_lt (Nat.lt_of_lt_of_le hi this), ha.2.1 i hi]
    · have := ha.1
      simp [x_push] at q
      omega
  refine va_newq (C := RX4) (N' := n.toNatClampNeg) hx hb hown (hts _ hlk) hao hI.1 hI.2.1 hI.2.2.1 hI.2.2.2 hA hn0 rfl (by omega) (by omega) (by omega) hd (fun z cA H1 gK g1 g2 g3 => ?_)
  have eA : cA = cO := by
    obtain ⟨kA, comp, q1, q2, q3, q4⟩ := (gK.2 3 _ rfl).2
    obtain ⟨kA', comp', r1, r2, r3, r4⟩ := (hI.1.2 2 _ rfl).2
    exact Option.some.inj (q4.symm.trans r4)
  subst eA
  have e0 : (.inl (cA, n.toNatClampNeg, .inr (.inr (.inr (.inr (fun _ => none))))) : va_E) = x_cell cI cZ cA (x_adp ad h.1.length z) (x_push h.1 h.2 (3, n.toNatClampNeg, List.replicate n.toNatClampNeg none)).2 h.1.length (3, n.toNatClampNeg, List.replicate n.toNatClampNeg none) := by
    have : ∀ j, (((List.replicate n.toNatClampNeg (none : Option Nat))[j]?).getD none) = none := fun j => by
      rw [List.getElem?_replicate]
      split <;> rfl
    simp only [x_cell, this, Option.map_none]
  rw [e0] at g1 g2
  have e1 := x_W_push (cI := cI) (cZ := cZ) (cO := cA) (ad := ad) (S := h.1) (V := h.2) (q := (3, n.toNatClampNeg, List.replicate n.toNatClampNeg none)) (a := z) o3
  rw [show x_W cI cZ cA ad h = x_W cI cZ cA ad (h.1, h.2) from rfl, e1] at g1 g2
  have hk := k H1 locs (cells + 1) (slots + n.toNatClampNeg) (x_adp ad h.1.length z) lsR ⟨hI.1, g1, g2, g3⟩ (x_L_ro o1 hL) (by simp [x_push]; omega) (by rw [x_sl_push]; show _ = x_sl h + _; rw [← hs]; simp only [x_slots]; omega) (hadN z)
  rw [List.map_cons, x_tr_ro o2] at hk
  have e2 : x_tr (x_adp ad h.1.length z) (.ref h.1.length) = .ref z := by simp [x_tr, x_adp]
  rw [e2] at hk
  exact hk
theorem x_sw_spec (L : List (Int32 × Nat)) (x : Int32) (d : Nat) : (∃ q ∈ L, q.1 = x ∧ x_sw L x d = q.2) ∨ ((∀ q ∈ L, q.1 ≠ x) ∧ x_sw L x d = d) := by
  induction L with
  | nil => exact Or.inr ⟨fun q hq => absurd hq List.not_mem_nil, rfl⟩
  | cons q r ih =>
    by_cases hq : q.1 = x
    · exact Or.inl ⟨q, List.mem_cons_self, hq, by simp [x_sw, hq]⟩
    · rcases ih with ⟨z, h1, h2, h3⟩ | ⟨h1, h2⟩
      · exact Or.inl ⟨z, List.mem_cons_of_mem _ h1, h2, by simp [x_sw, hq, h3]⟩
      · refine Or.inr ⟨fun z hz => ?_, by simp [x_sw, hq, h2]⟩
        rcases List.mem_cons.mp hz with rfl | hz
        · exact hq
        · exact h1 z hz
theorem s_table (hx : p.tables.exec = Jvm.exec) (hb : c.code = cc) {d lo hi : Int} {offs : Array Int} {len a cs : Nat} {x : Int32} (ha' : (pc : Int) + d = (a : Int)) (h1 : (x_sws.getD cs []).all (fun q => decide (¬ q.1.toInt < lo) && decide (¬ hi < q.1.toInt) && offs[(q.1.toInt - lo).toNat]? == some ((q.2 : Int) - pc)) = true) (h2 : (List.range (hi - lo + 1).toNat).all (fun i => (x_sws.getD cs []).any (fun q => q.1.toInt == lo + i)) = true) (hd : decode cc pc = .ok (.tableswitch d lo hi offs, len)) (k : x_G p l e R s m args below meth c Q D cI cZ cO A L0 T0 n0 ad0 (x_sw (x_sws.getD cs []) x a) ls st h) : x_G p l e R s m args below meth c Q D cI cZ cO A L0 T0 n0 ad0 pc ls (.int x :: st) h := by
  intro H locs cells slots ad lsR hI hL hc hs ha
  have hk := k H locs cells slots ad lsR hI hL hc hs ha
  rcases x_sw_spec (x_sws.getD cs []) x a with ⟨q, q1, q2, q3⟩ | ⟨q1, q2⟩
  · have hq := List.all_eq_true.mp h1 q q1
    simp only [Bool.and_eq_true, decide_eq_true_eq, beq_iff_eq] at hq
    rw [q3] at hk
    subst q2
    exact lv_tableIn hx hb hd hq.1.1 hq.1.2 hq.2 (by omega) hk
  · rw [q2] at hk
    refine lv_tableOut hx hb hd ?_ ha' hk
    rcases Int.lt_or_le x.toInt lo with z | z
    · exact Or.inl z
    · rcases Int.lt_or_le hi x.toInt with y | y
      · exact Or.inr y
      · exfalso
        have hq := List.all_eq_true.mp h2 (x.toInt - lo).toNat (List.mem_range.mpr (by omega))
        obtain ⟨w, w1, w2⟩ := List.any_eq_true.mp hq
        simp only [beq_iff_eq] at w2
        exact q1 w w1 (Int32.toInt_inj.mp (by omega))
theorem x_find_sw (pc : Int) (L : List (Int32 × Nat)) (x : Int32) (d : Nat) : (L.map (fun q => (q.1.toInt, (q.2 : Int) - pc))).find? (·.1 == x.toInt) = none ∧ x_sw L x d = d ∨ ∃ q : Int32 × Nat, (L.map (fun q => (q.1.toInt, (q.2 : Int) - pc))).find? (·.1 == x.toInt) = some (q.1.toInt, (q.2 : Int) - pc) ∧ x_sw L x d = q.2 := by
  induction L with
  | nil => exact Or.inl ⟨rfl, rfl⟩
  | cons q r ih =>
    by_cases hq : q.1 = x
    · exact Or.inr ⟨q, by simp [hq], by simp [x_sw, hq]⟩
    · have hn : ¬ q.1.toInt = x.toInt := fun z => hq (Int32.toInt_inj.mp z)
      rcases ih with ⟨h1, h2⟩ | ⟨z, h1, h2⟩
      · exact Or.inl ⟨by rw [List.map_cons, List.find?_cons_of_neg (by simpa using hn)]; exact h1, by simp [x_sw, hq, h2]⟩
      · exact Or.inr ⟨z, by rw [List.map_cons, List.find?_cons_of_neg (by simpa using hn)]; exact h1, by simp [x_sw, hq, h2]⟩
theorem s_look (hx : p.tables.exec = Jvm.exec) (hb : c.code = cc) {d : Int} {ps : Array (Int × Int)} {len a cs : Nat} {x : Int32} (ha' : (pc : Int) + d = (a : Int)) (h1 : (x_sws.getD cs []).map (fun q => (q.1.toInt, (q.2 : Int) - pc)) = ps.toList) (h2 : (ps.toList.zip (ps.toList.drop 1)).all (fun (a, next) => a.1 < next.1) = true) (hd : decode cc pc = .ok (.lookupswitch d ps, len)) (k : x_G p l e R s m args below meth c Q D cI cZ cO A L0 T0 n0 ad0 (x_sw (x_sws.getD cs []) x a) ls st h) : x_G p l e R s m args below meth c Q D cI cZ cO A L0 T0 n0 ad0 pc ls (.int x :: st) h := by
  intro H locs cells slots ad lsR hI hL hc hs ha
  have hk := k H locs cells slots ad lsR hI hL hc hs ha
  rcases x_find_sw pc (x_sws.getD cs []) x a with ⟨q1, q2⟩ | ⟨q, q1, q2⟩
  · rw [h1] at q1
    rw [q2] at hk
    exact lv_lookup hx hb hd h2 (Op.lookupswitch.offset_none q1) ha' hk
  · rw [h1] at q1
    rw [q2] at hk
    exact lv_lookup hx hb hd h2 (Op.lookupswitch.offset_some q1) (by omega) hk
end Steps
