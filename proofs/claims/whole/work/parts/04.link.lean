/-! what the tables say of the fields, and what a program's instruction must be beside the code's bytes -/
set_option maxRecDepth 100000 in
theorem xw_lay0 : u_ws (xCn 0) (xTf 0) (xN 0) = [359, 361, 363, 365, 367, 369, 371, 373, 375, 377].filterMap (fun i => lw_tbl[i]?) := by rfl
set_option maxRecDepth 100000 in
theorem xw_lay1 : u_ws (xCn 1) (xTf 1) (xN 1) = [260, 262].filterMap (fun i => lw_tbl[i]?) := by rfl
set_option maxRecDepth 100000 in
theorem xw_lay2 : u_ws (xCn 2) (xTf 2) (xN 2) = [274, 276].filterMap (fun i => lw_tbl[i]?) := by rfl
set_option maxRecDepth 100000 in
theorem xw_lay3 : u_ws (xCn 3) (xTf 3) (xN 3) = [204, 206, 208, 210, 212, 214, 216, 218, 220, 222, 224, 226, 228, 230, 232, 234].filterMap (fun i => lw_tbl[i]?) := by rfl
set_option maxRecDepth 100000 in
theorem xw_lay5 : u_ws (xCn 5) (xTf 5) (xN 5) = [146, 148, 150, 152, 154, 156, 158, 160].filterMap (fun i => lw_tbl[i]?) := by rfl
set_option maxRecDepth 100000 in
theorem xw_lay6 : u_ws (xCn 6) (xTf 6) (xN 6) = [328, 330, 332, 334, 336, 338, 340, 342, 344, 346].filterMap (fun i => lw_tbl[i]?) := by rfl
set_option maxRecDepth 100000 in
theorem xw_lay7 : u_ws (xCn 7) (xTf 7) (xN 7) = [246, 248].filterMap (fun i => lw_tbl[i]?) := by rfl
set_option maxRecDepth 100000 in
theorem xw_lay8 : u_ws (xCn 8) (xTf 8) (xN 8) = [295, 297, 299, 301].filterMap (fun i => lw_tbl[i]?) := by rfl
set_option maxRecDepth 100000 in
theorem xw_lay9 : u_ws (xCn 9) (xTf 9) (xN 9) = [1012, 1014, 1016, 1018, 1020, 1022, 1024, 1026, 1028, 1030, 1032, 1034, 1036, 1038, 1040, 1042, 1044, 1046, 1048, 1050, 1052, 1054, 1056, 1058, 1060, 1062, 1064, 1066, 1068, 1070, 1072, 1074, 1076, 1078, 1080, 1082, 1084, 1086, 1088, 1090, 1092, 1094, 1096, 1098, 1100, 1102, 1104, 1106, 1108, 1110, 1112, 1114, 1116, 1118, 1120, 1122, 1124, 1126, 1128, 1130, 1132, 1134, 1136, 1138, 1140].filterMap (fun i => lw_tbl[i]?) := by rfl
/-- the words that stay true in a call -/
def xtb : List Cond := lw_tbl.filter goodWord
theorem xtb_of {w : Cond} (h : w ∈ lw_tbl) (hg : goodWord w = true) : w ∈ xtb := List.mem_filter.mpr ⟨h, hg⟩
theorem xtb_good {w : Cond} (h : w ∈ xtb) : (w.onTables && w.keeps) = true ∨ ∃ ty, w = .arrayClass ty := good_of_word (List.mem_filter.mp h).2
theorem xtb_in {w : Cond} (h : w ∈ xtb) : w ∈ lw_tbl := (List.mem_filter.mp h).1
theorem xmem_of {ws big : List Cond} {ps : List Nat} (h : ws = ps.filterMap (fun i => big[i]?)) : ∀ w ∈ ws, w ∈ big := by
  intro w hw
  rw [h] at hw
  obtain ⟨i, -, hi⟩ := List.mem_filterMap.mp hw
  exact List.mem_of_getElem? hi
theorem xw_lay0_ (ci : Nat) (h : ci < 10) (h4 : ci ≠ 4) : ∀ w ∈ u_ws (xCn ci) (xTf ci) (xN ci), w ∈ lw_tbl := by
  match ci, h, h4 with
  | 0, _, _ => exact xmem_of xw_lay0
  | 1, _, _ => exact xmem_of xw_lay1
  | 2, _, _ => exact xmem_of xw_lay2
  | 3, _, _ => exact xmem_of xw_lay3
  | 5, _, _ => exact xmem_of xw_lay5
  | 6, _, _ => exact xmem_of xw_lay6
  | 7, _, _ => exact xmem_of xw_lay7
  | 8, _, _ => exact xmem_of xw_lay8
  | 9, _, _ => exact xmem_of xw_lay9
  | 4, _, h4 => exact absurd rfl h4
theorem xw_lay (ci : Nat) (h : ci < 10) (h4 : ci ≠ 4) : ∀ w ∈ u_ws (xCn ci) (xTf ci) (xN ci), w ∈ xtb := by
  intro w hw
  refine xtb_of ?_ ?_
  · exact xw_lay0_ ci h h4 w hw
  · obtain ⟨k, -, rfl⟩ := List.mem_map.mp hw
    unfold u_lay
    split <;> rfl
theorem xw_fl {o i j : Nat} (h : (o, i, j) ∈ xFL) : Cond.fieldLink (xCn o) i (xCn (j / 10000)) (xTf (j / 10000) (j / 10 % 1000)).2.1 (xTf (j / 10000) (j / 10 % 1000)).2.2.1 ∈ xtb := xtb_of (xmem_of xw_FL _ (List.mem_map.mpr ⟨_, h, rfl⟩)) rfl
theorem xw_ml {o i j : Nat} (h : (o, i, j) ∈ xML) : Cond.methodLink (xCn o) i (xMn j) ∈ xtb := xtb_of (xmem_of xw_ML _ (List.mem_map.mpr ⟨_, h, rfl⟩)) rfl
theorem xw_oi {o i : Nat} (h : (o, i) ∈ xOI) : Cond.methodLink (xCn o) i Lib.objectInit ∈ xtb := xtb_of (xmem_of xw_OI _ (List.mem_map.mpr ⟨_, h, rfl⟩)) rfl
theorem xw_ac {o i : Nat} (h : (o, i) ∈ xAC) : Cond.methodLink (xCn o) i arraycopyName ∈ xtb := xtb_of (xmem_of xw_AC _ (List.mem_map.mpr ⟨_, h, rfl⟩)) rfl
theorem xw_nl {o i j : Nat} (h : (o, i, j) ∈ xNL) : Cond.methodLinkNest (xCn o) i (xMn j) "KeptAnswers" ∈ xNLw := List.mem_map.mpr ⟨_, h, rfl⟩
theorem xw_hl {o i : Nat} (h : (o, i) ∈ xHL) : Cond.fieldLinkNest (xCn o) i "KeptAnswers" "HOLDING" "[J" "KeptAnswers" ∈ xHLw := List.mem_map.mpr ⟨_, h, rfl⟩
theorem xw_ki {o i : Nat} {v : Int} (h : (o, i, v) ∈ xKI) : Cond.constant (xCn o) i (xc v) ∈ xtb := xtb_of (xmem_of xw_KI _ (List.mem_map.mpr ⟨_, h, rfl⟩)) rfl
theorem xw_kl {o i v : Nat} (h : (o, i, v) ∈ xKL) : Cond.constantLong (xCn o) i (Int64.ofNat v) ∈ xtb := xtb_of (xmem_of xw_KL _ (List.mem_map.mpr ⟨_, h, rfl⟩)) rfl
theorem xw_cl {o i j : Nat} (h : (o, i, j) ∈ xCLk) : Cond.classLink (xCn o) i (xCn j) ∈ xtb := xtb_of (xmem_of xw_CL _ (List.mem_map.mpr ⟨_, h, rfl⟩)) rfl
theorem xw_vm {y : Nat} (h : y ∈ xVM) : Cond.selects (xCn (xOw y)) (xMn y) (xMn y) ∈ xtb := xtb_of (xmem_of xw_VM _ (List.mem_map.mpr ⟨_, h, rfl⟩)) rfl
theorem xw_vm2 {y : Nat} (h : y ∈ xVM) : Cond.instanceMethod (xMn y) ∈ xtb := xtb_of (xmem_of xw_VM2 _ (List.mem_map.mpr ⟨_, h, rfl⟩)) rfl
theorem xw_sm {y : Nat} (h : y ∈ xSM) : Cond.static (xMn y) ∈ xtb := xtb_of (xmem_of xw_SM _ (List.mem_map.mpr ⟨_, h, rfl⟩)) rfl
theorem xw_im {y : Nat} (h : y ∈ xIM) : Cond.instanceMethod (xMn y) ∈ xtb := xtb_of (xmem_of xw_IM _ (List.mem_map.mpr ⟨_, h, rfl⟩)) rfl
theorem xw_in {c : Nat} (h : c < 16) : Cond.initialized (xCn c) ∈ xtb := xtb_of (xmem_of xw_ini _ (List.mem_map.mpr ⟨c, List.mem_range.mpr h, rfl⟩)) rfl
def xMcodes : List Cond := xMt.map (fun q => Cond.code q.1 q.2.1 q.2.2.1 q.2.2.2.1)
theorem xw_code {y : Nat} (h : y < xnM) : Cond.code (xMn y) (xBy y) (xMl y) (xRt y) ∈ xtb := by
  refine xtb_of ?_ rfl
  have hq : ∀ q ∈ xMt0 ++ (xMt1 ++ (xMt2 ++ (xMt3 ++ (xMt4 ++ (xMt5))))), Cond.code q.1 q.2.1 q.2.2.1 q.2.2.2.1 ∈ lw_tbl := by
    intro q hq
    simp only [List.mem_append] at hq
    rcases hq with hq | hq | hq | hq | hq | hq
    · exact xmem_of xw_code0 _ (List.mem_map.mpr ⟨_, hq, rfl⟩)
    · exact xmem_of xw_code1 _ (List.mem_map.mpr ⟨_, hq, rfl⟩)
    · exact xmem_of xw_code2 _ (List.mem_map.mpr ⟨_, hq, rfl⟩)
    · exact xmem_of xw_code3 _ (List.mem_map.mpr ⟨_, hq, rfl⟩)
    · exact xmem_of xw_code4 _ (List.mem_map.mpr ⟨_, hq, rfl⟩)
    · exact xmem_of xw_code5 _ (List.mem_map.mpr ⟨_, hq, rfl⟩)
  have hl : (xMt0 ++ (xMt1 ++ (xMt2 ++ (xMt3 ++ (xMt4 ++ (xMt5)))))).length = xnM := by rfl
  have e : xMt = (xMt0 ++ (xMt1 ++ (xMt2 ++ (xMt3 ++ (xMt4 ++ (xMt5)))))) ++ xMtL := by
    unfold xMt
    simp only [List.append_assoc]
  have h2 : xMt.getD y xMd ∈ xMt0 ++ (xMt1 ++ (xMt2 ++ (xMt3 ++ (xMt4 ++ (xMt5))))) := by
    rw [e, List.getD_eq_getElem?_getD, List.getElem?_append_left (by rw [hl]; exact h), List.getElem?_eq_getElem (by rw [hl]; exact h)]
    exact List.getElem_mem _
  exact hq _ h2
theorem xty_ok : ∀ c, c < 10 → ∀ k, k < xN c → parseFieldDescriptor (xTf c k).2.2.1 = some (xTy c k) := by decide +kernel
theorem xtd_ok : ∀ c, c < 10 → ∀ k, k < xN c → (xTf c k).1 = xCn c := by decide +kernel
theorem xnd_ok : ∀ y, y < xnM → ((xMn y).cls = xCn (xOw y) ∧ xOw y < 16) ∧ (xMn y).cls ≠ "java/lang/invoke/MethodHandle" ∧ (xMn y).cls ≠ "java/lang/invoke/VarHandle" := by decide +kernel
theorem xml_ok : ∀ y, y < xnM → xMl y ≤ 40 ∧ (xOw y ≠ 13 → plainName (xMn y).cls = true) := by decide +kernel
theorem xnm0 : ∀ a, a < xN 0 → ∀ b, b < xN 0 → a ≠ b → (xTf 0 a).2.1 ≠ (xTf 0 b).2.1 := by decide +kernel
theorem xnm1 : ∀ a, a < xN 1 → ∀ b, b < xN 1 → a ≠ b → (xTf 1 a).2.1 ≠ (xTf 1 b).2.1 := by decide +kernel
theorem xnm2 : ∀ a, a < xN 2 → ∀ b, b < xN 2 → a ≠ b → (xTf 2 a).2.1 ≠ (xTf 2 b).2.1 := by decide +kernel
theorem xnm3 : ∀ a, a < xN 3 → ∀ b, b < xN 3 → a ≠ b → (xTf 3 a).2.1 ≠ (xTf 3 b).2.1 := by decide +kernel
theorem xnm5 : ∀ a, a < xN 5 → ∀ b, b < xN 5 → a ≠ b → (xTf 5 a).2.1 ≠ (xTf 5 b).2.1 := by decide +kernel
theorem xnm6 : ∀ a, a < xN 6 → ∀ b, b < xN 6 → a ≠ b → (xTf 6 a).2.1 ≠ (xTf 6 b).2.1 := by decide +kernel
theorem xnm7 : ∀ a, a < xN 7 → ∀ b, b < xN 7 → a ≠ b → (xTf 7 a).2.1 ≠ (xTf 7 b).2.1 := by decide +kernel
theorem xnm8 : ∀ a, a < xN 8 → ∀ b, b < xN 8 → a ≠ b → (xTf 8 a).2.1 ≠ (xTf 8 b).2.1 := by decide +kernel
theorem xnm9 : ∀ a, a < xN 9 → ∀ b, b < xN 9 → a ≠ b → (xTf 9 a).2.1 ≠ (xTf 9 b).2.1 := by decide +kernel
theorem xnm (ci : Nat) (h : ci < 10) (h4 : ci ≠ 4) : ∀ a, a < xN ci → ∀ b, b < xN ci → a ≠ b → (xTf ci a).2.1 ≠ (xTf ci b).2.1 := by
  match ci, h, h4 with
  | 0, _, _ => exact xnm0
  | 1, _, _ => exact xnm1
  | 2, _, _ => exact xnm2
  | 3, _, _ => exact xnm3
  | 5, _, _ => exact xnm5
  | 6, _, _ => exact xnm6
  | 7, _, _ => exact xnm7
  | 8, _, _ => exact xnm8
  | 9, _, _ => exact xnm9
  | 4, _, h4 => exact absurd rfl h4
set_option maxRecDepth 100000 in
theorem xw_obj1 : Cond.instanceMethod Lib.objectInit ∈ xtb := xtb_of (List.mem_of_getElem? (i := 99) (by rfl)) rfl
set_option maxRecDepth 100000 in
theorem xw_obj2 : Cond.code Lib.objectInit ⟨#[0xb1]⟩ 1 none ∈ xtb := xtb_of (List.mem_of_getElem? (i := 100) (by rfl)) rfl
set_option maxRecDepth 100000 in
theorem xw_mathmax1 : Cond.static Lib.Math.max.name ∈ xtb := xtb_of (List.mem_of_getElem? (i := 115) (by rfl)) rfl
set_option maxRecDepth 100000 in
theorem xw_mathmax2 : Cond.code Lib.Math.max.name Lib.Math.max.code 2 (some .int) ∈ xtb := xtb_of (List.mem_of_getElem? (i := 116) (by rfl)) rfl
set_option maxRecDepth 100000 in
theorem xw_mathmin1 : Cond.static Lib.Math.min.name ∈ xtb := xtb_of (List.mem_of_getElem? (i := 618) (by rfl)) rfl
set_option maxRecDepth 100000 in
theorem xw_mathmin2 : Cond.code Lib.Math.min.name Lib.Math.min.code 2 (some .int) ∈ xtb := xtb_of (List.mem_of_getElem? (i := 619) (by rfl)) rfl
set_option maxRecDepth 100000 in
theorem xw_ac1 : Cond.native arraycopyName ∈ xtb := xtb_of (List.mem_of_getElem? (i := 424) (by rfl)) rfl
set_option maxRecDepth 100000 in
theorem xw_ac2 : Cond.static arraycopyName ∈ xtb := xtb_of (List.mem_of_getElem? (i := 423) (by rfl)) rfl
set_option maxRecDepth 100000 in
theorem xw_arrI : Cond.arrayClass .int ∈ xtb := xtb_of (List.mem_of_getElem? (i := 163) (by rfl)) rfl
set_option maxRecDepth 100000 in
theorem xw_arrJ : Cond.arrayClass .long ∈ xtb := xtb_of (List.mem_of_getElem? (i := 304) (by rfl)) rfl
set_option maxRecDepth 100000 in
theorem xw_arrZ : Cond.arrayClass .boolean ∈ xtb := xtb_of (List.mem_of_getElem? (i := 1143) (by rfl)) rfl
set_option maxRecDepth 100000 in
theorem xw_inst0 : Cond.instantiable (xCn 0) (xN 0) ∈ xtb := xtb_of (List.mem_of_getElem? (i := 94) (by rfl)) rfl
set_option maxRecDepth 100000 in
theorem xw_inst3 : Cond.instantiable (xCn 3) (xN 3) ∈ xtb := xtb_of (List.mem_of_getElem? (i := 102) (by rfl)) rfl
set_option maxRecDepth 100000 in
theorem xw_inst5 : Cond.instantiable (xCn 5) (xN 5) ∈ xtb := xtb_of (List.mem_of_getElem? (i := 109) (by rfl)) rfl
set_option maxRecDepth 100000 in
theorem xw_inst7 : Cond.instantiable (xCn 7) (xN 7) ∈ xtb := xtb_of (List.mem_of_getElem? (i := 238) (by rfl)) rfl
set_option maxRecDepth 100000 in
theorem xw_inst1 : Cond.instantiable (xCn 1) (xN 1) ∈ xtb := xtb_of (List.mem_of_getElem? (i := 252) (by rfl)) rfl
set_option maxRecDepth 100000 in
theorem xw_inst2 : Cond.instantiable (xCn 2) (xN 2) ∈ xtb := xtb_of (List.mem_of_getElem? (i := 266) (by rfl)) rfl
set_option maxRecDepth 100000 in
theorem xw_inst8 : Cond.instantiable (xCn 8) (xN 8) ∈ xtb := xtb_of (List.mem_of_getElem? (i := 284) (by rfl)) rfl
set_option maxRecDepth 100000 in
theorem xw_inst6 : Cond.instantiable (xCn 6) (xN 6) ∈ xtb := xtb_of (List.mem_of_getElem? (i := 305) (by rfl)) rfl
set_option maxRecDepth 100000 in
theorem xw_inst9 : Cond.instantiable (xCn 9) (xN 9) ∈ xtb := xtb_of (List.mem_of_getElem? (i := 942) (by rfl)) rfl
theorem xw_inst (ci : Nat) (h : ci < 10) (h4 : ci ≠ 4) : Cond.instantiable (xCn ci) (xN ci) ∈ xtb := by
  match ci, h, h4 with
  | 0, _, _ => exact xw_inst0
  | 1, _, _ => exact xw_inst1
  | 2, _, _ => exact xw_inst2
  | 3, _, _ => exact xw_inst3
  | 5, _, _ => exact xw_inst5
  | 6, _, _ => exact xw_inst6
  | 7, _, _ => exact xw_inst7
  | 8, _, _ => exact xw_inst8
  | 9, _, _ => exact xw_inst9
  | 4, _, h4 => exact absurd rfl h4
def xJJ : List (Nat × Nat) := [(8, 15)]
set_option maxRecDepth 100000 in
theorem xw_JJ : xJJ.map (fun q => Cond.classLink (xCn q.1) q.2 ("[" ++ (FieldType.array .long).toString)) = [289].filterMap (fun i => lw_tbl[i]?) := by rfl
theorem xw_mul {o i : Nat} (h : (o, i) ∈ xJJ) : Cond.classLink (xCn o) i ("[" ++ (FieldType.array .long).toString) ∈ xtb := xtb_of (xmem_of xw_JJ _ (List.mem_map.mpr ⟨_, h, rfl⟩)) rfl
set_option maxRecDepth 100000 in
theorem xw_ov4 : Cond.arrayOver (.object "KeptAnswers$Picture") ∈ lw_tbl := List.mem_of_getElem? (i := 108) (by rfl)
set_option maxRecDepth 100000 in
theorem xw_ov5 : Cond.arrayOver (.object "KeptAnswers$Sight") ∈ lw_tbl := List.mem_of_getElem? (i := 280) (by rfl)
set_option maxRecDepth 100000 in
theorem xw_ov6 : Cond.arrayOver (.array .long) ∈ lw_tbl := List.mem_of_getElem? (i := 290) (by rfl)
set_option maxRecDepth 100000 in
theorem xw_ls : Cond.laysStatic "KeptAnswers" "HOLDING" "[J" ∈ lw_tbl := List.mem_of_getElem? (i := 752) (by rfl)
