/-! the words of the tables that the entries stand on -/
def x_tb : List Cond := lw_tbl.filter goodWord
theorem x_tb_in {w : Cond} {i : Nat} (h : lw_tbl[i]? = some w) (hg : goodWord w = true) : w ∈ x_tb := List.mem_filter.mpr ⟨List.mem_of_getElem? h, hg⟩
def x_C (ci : Nat) : vw_C := x_cl.getD ci (RX0, TX0, 0)
def x_T (ci k : Nat) : String × String × String × Bool := (x_C ci).2.1 k
def x_N (cn : Nat) : String := x_cn.getD cn ""
def x_Y (i : Nat) : MethodName := (x_inf.getD i nX0_init).1
def x_ok1 (w : Cond) (i : Nat) : Bool := decide (lw_tbl[i]? = some w) && goodWord w
theorem x_ok1_in {w : Cond} {i : Nat} (h : x_ok1 w i = true) : w ∈ x_tb := by
  simp only [x_ok1, Bool.and_eq_true, decide_eq_true_eq] at h
  exact x_tb_in h.1 h.2
def x_wF (q : Nat × Nat × Nat × Nat × Nat) : Cond := .fieldLink (x_N q.1) q.2.1 (x_T q.2.2.1 q.2.2.2.1).1 (x_T q.2.2.1 q.2.2.2.1).2.1 (x_T q.2.2.1 q.2.2.2.1).2.2.1
theorem x_FL_ok : x_FL.all (fun q => x_ok1 (x_wF q) q.2.2.2.2 && decide (q.2.2.2.1 < (x_C q.2.2.1).2.2) && decide (q.2.2.1 < 8)) = true := by decide +kernel
def x_wM (q : Nat × Nat × Nat × Nat) : Cond := .methodLink (x_N q.1) q.2.1 (x_Y q.2.2.1)
theorem x_ML_ok : x_ML.all (fun q => x_ok1 (x_wM q) q.2.2.2) = true := by decide +kernel
def x_wC (q : Nat × Nat × Int32 × Nat) : Cond := .constant (x_N q.1) q.2.1 q.2.2.1
theorem x_CL_ok : x_CL.all (fun q => x_ok1 (x_wC q) q.2.2.2) = true := by decide +kernel
def x_wK (q : Nat × Nat × Nat × Nat) : Cond := .classLink (x_N q.1) q.2.1 (x_N q.2.2.1)
theorem x_KL_ok : x_KL.all (fun q => x_ok1 (x_wK q) q.2.2.2) = true := by decide +kernel
theorem x_OL_ok : x_OL.all (fun q => x_ok1 (.methodLink (x_N q.1) q.2.1 Lib.objectInit) q.2.2) = true := by decide +kernel
theorem x_AL_ok : x_AL.all (fun q => x_ok1 (.methodLink (x_N q.1) q.2.1 arraycopyName) q.2.2) = true := by decide +kernel
theorem x_XL_ok : x_XL.all (fun q => x_ok1 (.methodLink (x_N q.1) q.2.1 (if q.2.2.1 = 11 then Lib.Math.max.name else Lib.Math.min.name)) q.2.2.2) = true := by decide +kernel
def x_wP (q : xI) (r : Nat × Nat × Nat × Nat) : Bool := x_ok1 (.code q.1 q.2.1 q.2.2.1 q.2.2.2.1) r.1 && x_ok1 (.initialized q.1.cls) r.2.1 && x_ok1 (if q.2.2.2.2.1 = 0 then .static q.1 else .instanceMethod q.1) r.2.2.1 && (q.2.2.2.2.1 != 1 || x_ok1 (.selects q.1.cls q.1 q.1) r.2.2.2)
def x_in8 (ci : Nat) : Bool := (u_ws (x_C ci).1 (x_C ci).2.1 (x_C ci).2.2).all (fun w => decide (w ∈ lw_tbl) && goodWord w)
theorem x_in8_0 : x_in8 0 = true := by decide +kernel
theorem x_in8_1 : x_in8 1 = true := by decide +kernel
theorem x_in8_2 : x_in8 2 = true := by decide +kernel
theorem x_in8_3 : x_in8 3 = true := by decide +kernel
theorem x_in8_4 : x_in8 4 = true := by decide +kernel
theorem x_in8_5 : x_in8 5 = true := by decide +kernel
theorem x_in8_6 : x_in8 6 = true := by decide +kernel
theorem x_in8_7 : x_in8 7 = true := by decide +kernel
theorem x_new_ok : (List.range 8).all (fun i => x_ok1 (.instantiable (x_C i).1 (x_C i).2.2) ([201, 158, 226, 76, 124, 220, 68, 722].getD i 0) && x_ok1 (.initialized (x_C i).1) ([60, 59, 62, 56, 58, 61, 55, 63].getD i 0) && decide ((x_C i).1 = x_N i)) = true := by decide +kernel
theorem x_obj_ok : x_ok1 (.instanceMethod Lib.objectInit) 73 = true ∧ x_ok1 (.code Lib.objectInit ⟨#[0xb1]⟩ 1 none) 74 = true := by decide +kernel
theorem x_cpy_ok : x_ok1 (.native arraycopyName) 428 = true ∧ x_ok1 (.static arraycopyName) 427 = true ∧ x_ok1 (.initialized "java/lang/System") 65 = true := by decide +kernel
theorem x_mth_ok : x_ok1 (.initialized "java/lang/Math") 64 = true ∧ x_ok1 (.static Lib.Math.max.name) 601 = true ∧ x_ok1 (.code Lib.Math.max.name Lib.Math.max.code 2 (some .int)) 602 = true ∧ x_ok1 (.static Lib.Math.min.name) 356 = true ∧ x_ok1 (.code Lib.Math.min.name Lib.Math.min.code 2 (some .int)) 357 = true := by decide +kernel
theorem x_arr_ok : x_ok1 (.arrayClass .int) 122 = true ∧ x_ok1 (.arrayClass .boolean) 838 = true := by decide +kernel
theorem x_nest_ok : lw_tbl[358]? = some (.methodLinkNest (x_N 1) 52 (x_Y 38) "MuseumYear") ∧ lw_tbl[359]? = some (.methodLinkNest (x_N 1) 55 (x_Y 44) "MuseumYear") ∧ lw_tbl[207]? = some (.arrayOver (.object RX4)) := by decide +kernel
