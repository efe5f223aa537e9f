def dk_sp (w : Cond) : Bool := match w with
  | .laysStatic _ _ _ => true
  | .isRef _ => true
  | _ => false
def dk_ic (e : Nat) : Nat := match e with
  | 1 => 148
  | 2 => 48
  | 3 => 65
  | _ => 77
def dk_names : List String := ["java/lang/RuntimeException", "java/lang/Exception"]
set_option maxRecDepth 100000 in
theorem dk_oa1 : ∀ w ∈ (Bundle.ownAtoms (dk_R 5) (dk_ic 1) (dk_X 1) dk_names).filter (fun w => !dk_sp w), w ∈ lw_tbl := dk_byP [8, 269, 278, 283, 286, 288, 270, 271, 22, 23, 272, 277, 284, 304, 259, 305, 261, 306, 263, 273, 275, 265, 300, 301, 303, 265, 291, 292, 293, 294, 251, 294, 295, 296, 297, 253, 297, 298, 299, 300, 255, 290, 248, 249, 256, 257, 258, 260, 262, 264, 268, 267, 266] rfl
theorem dk_ob1 : ((Bundle.ownAtoms (dk_R 5) (dk_ic 1) (dk_X 1) dk_names).filter (fun w => !dk_sp w)).all dk_wk = true := by decide +kernel
theorem dk_oc1 : ((Bundle.ownAtoms (dk_R 5) (dk_ic 1) (dk_X 1) dk_names).filter dk_sp) = [.laysStatic "java/lang/Throwable" "UNASSIGNED_STACK" "[Ljava/lang/StackTraceElement;", .laysStatic "java/lang/Throwable" "SUPPRESSED_SENTINEL" "Ljava/util/List;", .isRef (.static "java/lang/Throwable" "UNASSIGNED_STACK" "[Ljava/lang/StackTraceElement;"), .isRef (.static "java/lang/Throwable" "SUPPRESSED_SENTINEL" "Ljava/util/List;")] := rfl
set_option maxRecDepth 100000 in
theorem dk_ei1 : Cond.instantiable (dk_X 1) 6 ∈ lw_tbl ∧ Cond.initialized (dk_X 1) ∈ lw_tbl := ⟨dk_inT (List.mem_of_getElem? (i := 248) rfl), dk_inT (List.mem_of_getElem? (i := 11) rfl)⟩
set_option maxRecDepth 100000 in
theorem dk_oa2 : ∀ w ∈ (Bundle.ownAtoms (dk_R 5) (dk_ic 2) (dk_X 2) dk_names).filter (fun w => !dk_sp w), w ∈ lw_tbl := dk_byP [8, 269, 278, 283, 286, 288, 270, 271, 22, 23, 272, 277, 284, 304, 259, 305, 261, 306, 263, 273, 275, 265, 300, 301, 303, 265, 327, 328, 329, 294, 251, 294, 295, 296, 297, 253, 297, 298, 299, 300, 255, 326, 317, 318, 319, 281, 320, 321, 322, 323, 268, 267, 324] rfl
theorem dk_ob2 : ((Bundle.ownAtoms (dk_R 5) (dk_ic 2) (dk_X 2) dk_names).filter (fun w => !dk_sp w)).all dk_wk = true := by decide +kernel
theorem dk_oc2 : ((Bundle.ownAtoms (dk_R 5) (dk_ic 2) (dk_X 2) dk_names).filter dk_sp) = [.laysStatic "java/lang/Throwable" "UNASSIGNED_STACK" "[Ljava/lang/StackTraceElement;", .laysStatic "java/lang/Throwable" "SUPPRESSED_SENTINEL" "Ljava/util/List;", .isRef (.static "java/lang/Throwable" "UNASSIGNED_STACK" "[Ljava/lang/StackTraceElement;"), .isRef (.static "java/lang/Throwable" "SUPPRESSED_SENTINEL" "Ljava/util/List;")] := rfl
set_option maxRecDepth 100000 in
theorem dk_ei2 : Cond.instantiable (dk_X 2) 6 ∈ lw_tbl ∧ Cond.initialized (dk_X 2) ∈ lw_tbl := ⟨dk_inT (List.mem_of_getElem? (i := 317) rfl), dk_inT (List.mem_of_getElem? (i := 12) rfl)⟩
set_option maxRecDepth 100000 in
theorem dk_oa3 : ∀ w ∈ (Bundle.ownAtoms (dk_R 5) (dk_ic 3) (dk_X 3) dk_names).filter (fun w => !dk_sp w), w ∈ lw_tbl := dk_byP [8, 269, 278, 283, 286, 288, 270, 271, 22, 23, 272, 277, 284, 304, 259, 305, 261, 306, 263, 273, 275, 265, 300, 301, 303, 265, 364, 365, 366, 294, 251, 294, 295, 296, 297, 253, 297, 298, 299, 300, 255, 363, 354, 355, 356, 280, 357, 358, 359, 360, 268, 267, 361] rfl
theorem dk_ob3 : ((Bundle.ownAtoms (dk_R 5) (dk_ic 3) (dk_X 3) dk_names).filter (fun w => !dk_sp w)).all dk_wk = true := by decide +kernel
theorem dk_oc3 : ((Bundle.ownAtoms (dk_R 5) (dk_ic 3) (dk_X 3) dk_names).filter dk_sp) = [.laysStatic "java/lang/Throwable" "UNASSIGNED_STACK" "[Ljava/lang/StackTraceElement;", .laysStatic "java/lang/Throwable" "SUPPRESSED_SENTINEL" "Ljava/util/List;", .isRef (.static "java/lang/Throwable" "UNASSIGNED_STACK" "[Ljava/lang/StackTraceElement;"), .isRef (.static "java/lang/Throwable" "SUPPRESSED_SENTINEL" "Ljava/util/List;")] := rfl
set_option maxRecDepth 100000 in
theorem dk_ei3 : Cond.instantiable (dk_X 3) 6 ∈ lw_tbl ∧ Cond.initialized (dk_X 3) ∈ lw_tbl := ⟨dk_inT (List.mem_of_getElem? (i := 354) rfl), dk_inT (List.mem_of_getElem? (i := 13) rfl)⟩
set_option maxRecDepth 100000 in
theorem dk_oa4 : ∀ w ∈ (Bundle.ownAtoms (dk_R 5) (dk_ic 4) (dk_X 4) dk_names).filter (fun w => !dk_sp w), w ∈ lw_tbl := dk_byP [8, 269, 278, 283, 286, 288, 270, 271, 22, 23, 272, 277, 284, 304, 259, 305, 261, 306, 263, 273, 275, 265, 300, 301, 303, 265, 380, 381, 382, 294, 251, 294, 295, 296, 297, 253, 297, 298, 299, 300, 255, 379, 370, 371, 372, 282, 373, 374, 375, 376, 268, 267, 377] rfl
theorem dk_ob4 : ((Bundle.ownAtoms (dk_R 5) (dk_ic 4) (dk_X 4) dk_names).filter (fun w => !dk_sp w)).all dk_wk = true := by decide +kernel
theorem dk_oc4 : ((Bundle.ownAtoms (dk_R 5) (dk_ic 4) (dk_X 4) dk_names).filter dk_sp) = [.laysStatic "java/lang/Throwable" "UNASSIGNED_STACK" "[Ljava/lang/StackTraceElement;", .laysStatic "java/lang/Throwable" "SUPPRESSED_SENTINEL" "Ljava/util/List;", .isRef (.static "java/lang/Throwable" "UNASSIGNED_STACK" "[Ljava/lang/StackTraceElement;"), .isRef (.static "java/lang/Throwable" "SUPPRESSED_SENTINEL" "Ljava/util/List;")] := rfl
set_option maxRecDepth 100000 in
theorem dk_ei4 : Cond.instantiable (dk_X 4) 6 ∈ lw_tbl ∧ Cond.initialized (dk_X 4) ∈ lw_tbl := ⟨dk_inT (List.mem_of_getElem? (i := 370) rfl), dk_inT (List.mem_of_getElem? (i := 14) rfl)⟩
theorem dk_fitX : Bundle.fit "java/lang/RuntimeException" = true ∧ Bundle.fit "java/lang/Exception" = true ∧ Bundle.fit (dk_X 1) = true ∧ Bundle.fit (dk_X 2) = true ∧ Bundle.fit (dk_X 3) = true ∧ Bundle.fit (dk_X 4) = true := by decide +kernel
