/-! words for making objects, and constants -/
def dk_clsW (q : Nat × Nat) : Cond := .classLink (dk_R (q.1 / 1000)) (q.1 % 1000) (if q.2 < 100 then dk_R q.2 else dk_X (q.2 - 100))
set_option maxRecDepth 20000 in
theorem dk_cls_in : ∀ w ∈ dk_newT.map dk_clsW, w ∈ lw_tbl := dk_byP [16, 24, 26, 28, 65, 94, 237, 238, 247, 316, 339, 340, 353, 369, 599] (by decide +kernel)
theorem dk_cls_spec {mi ix c : Nat} (h : dk_new mi ix = some c) (hix : ix < 1000) : Cond.classLink (dk_R (dk_oc mi)) ix (if c < 100 then dk_R c else dk_X (c - 100)) ∈ lw_tbl := by
  have hm := dk_find_mem _ _ _ h
  have h2 := dk_cls_in _ (List.mem_map_of_mem (f := dk_clsW) hm)
  have e1 : (1000 * dk_oc mi + ix) / 1000 = dk_oc mi := by omega
  have e2 : (1000 * dk_oc mi + ix) % 1000 = ix := by omega
  simp only [dk_clsW, e1, e2] at h2
  exact h2
set_option maxRecDepth 20000 in
theorem dk_inst_in : ∀ w ∈ (List.range 7).map (fun c => Cond.instantiable (dk_R c) (dk_N c)), w ∈ lw_tbl := dk_byP [96, 29, 60, 66, 169, 17, 600] (by decide +kernel)
set_option maxRecDepth 20000 in
theorem dk_ini_in : ∀ w ∈ (List.range 8).map (fun c => Cond.initialized (dk_R c)), w ∈ lw_tbl := dk_byP [5, 2, 3, 4, 6, 1, 7, 0] (by decide +kernel)
theorem dk_inst {c : Nat} (hc : c < 7) : Cond.instantiable (dk_R c) (dk_N c) ∈ lw_tbl := dk_inst_in _ (List.mem_map.mpr ⟨c, List.mem_range.mpr hc, rfl⟩)
theorem dk_ini {c : Nat} (hc : c < 8) : Cond.initialized (dk_R c) ∈ lw_tbl := dk_ini_in _ (List.mem_map.mpr ⟨c, List.mem_range.mpr hc, rfl⟩)
theorem dk_arrI : Cond.arrayClass .int ∈ lw_tbl := dk_inT (List.mem_of_getElem? (i := 59) (by decide +kernel))
theorem dk_arrZ : Cond.arrayClass .boolean ∈ lw_tbl := dk_inT (List.mem_of_getElem? (i := 690) (by decide +kernel))
theorem dk_arrJ : Cond.arrayClass .long ∈ lw_tbl := dk_inT (List.mem_of_getElem? (i := 821) (by decide +kernel))
theorem dk_arrP : Cond.arrayOver (.object (dk_R 2)) ∈ lw_tbl := dk_inT (List.mem_of_getElem? (i := 25) (by decide +kernel))
theorem dk_arrW : Cond.arrayOver (.object (dk_R 4)) ∈ lw_tbl := dk_inT (List.mem_of_getElem? (i := 27) (by decide +kernel))
theorem dk_arrG : Cond.arrayOver (.object (dk_R 0)) ∈ lw_tbl := dk_inT (List.mem_of_getElem? (i := 95) (by decide +kernel))
def dk_ldcW (q : Nat × Int32) : Cond := .constant (dk_R (q.1 / 1000)) (q.1 % 1000) q.2
set_option maxRecDepth 20000 in
theorem dk_ldc_in : ∀ w ∈ dk_ldcT.map dk_ldcW, w ∈ lw_tbl := dk_byP [596, 597, 598, 814, 815, 816] (by decide +kernel)
theorem dk_ldc_spec {mi ix : Nat} {x : Int32} (h : dk_ldc mi ix = some x) (hix : ix < 1000) : Cond.constant (dk_R (dk_oc mi)) ix x ∈ lw_tbl := by
  have hm := dk_find_mem _ _ _ h
  have h2 := dk_ldc_in _ (List.mem_map_of_mem (f := dk_ldcW) hm)
  have e1 : (1000 * dk_oc mi + ix) / 1000 = dk_oc mi := by omega
  have e2 : (1000 * dk_oc mi + ix) % 1000 = ix := by omega
  simp only [dk_ldcW, e1, e2] at h2
  exact h2
theorem dk_len_sch : ∀ a ∈ dk_sch, dk_len 0 a ≤ 5120 ∧ a.1 ≠ 15 := by decide +kernel
theorem dk_len_le {L : Nat} {a : dkI} (h : a ∈ dk_sch) : dk_len L a ≤ 5120 := by
  obtain ⟨h1, h2⟩ := dk_len_sch a h
  have : dk_len L a = dk_len 0 a := by
    unfold dk_len
    split <;> first | rfl | (exfalso; apply h2; assumption)
  omega
theorem dk_N_le {c : Nat} (hc : c < 7) : dk_N c ≤ 28 := by
  match c, hc with
  | 0, _ => decide
  | 1, _ => decide
  | 2, _ => decide
  | 3, _ => decide
  | 4, _ => decide
  | 5, _ => decide
  | 6, _ => decide
  | n + 7, hc => omega
