/-! words of the tables by their places -/
theorem dk_inT {w : Cond} (h : w ∈ tables_1) : w ∈ lw_tbl := List.mem_append_right _ h
theorem dk_byP {ws : List Cond} (ps : List Nat) (h : ws = ps.filterMap (fun i => tables_1[i]?)) : ∀ w ∈ ws, w ∈ lw_tbl := by
  intro w hw
  rw [h] at hw
  obtain ⟨i, -, hi⟩ := List.mem_filterMap.mp hw
  exact dk_inT (List.mem_of_getElem? hi)
def dk_fldW (q : Nat × Nat × Nat × Nat × Bool) : Cond := if q.2.2.2.2 = true then .fieldLinkNest (dk_R (q.1 / 1000)) (q.1 % 1000) (dk_R q.2.1) (dk_T q.2.1 q.2.2.1).2.1 (dk_T q.2.1 q.2.2.1).2.2.1 (dk_R 5)
  else .fieldLink (dk_R (q.1 / 1000)) (q.1 % 1000) (dk_R q.2.1) (dk_T q.2.1 q.2.2.1).2.1 (dk_T q.2.1 q.2.2.1).2.2.1
set_option maxRecDepth 20000 in
theorem dk_fld_in : ∀ w ∈ dk_fldT.map dk_fldW, w ∈ lw_tbl := dk_byP [34, 35, 36, 37, 38, 39, 40, 41, 42, 43, 44, 45, 71, 72, 73, 74, 75, 76, 77, 78, 79, 80, 101, 102, 103, 104, 105, 106, 107, 117, 118, 119, 120, 121, 122, 123, 124, 125, 126, 127, 128, 129, 130, 131, 132, 133, 134, 135, 136, 137, 138, 139, 174, 175, 176, 177, 178, 179, 180, 181, 191, 192, 193, 194, 195, 196, 605, 606, 607, 608, 609, 610, 611, 612, 613, 614, 615, 616, 617, 618, 619, 620, 621, 622, 623, 624, 625, 626, 627, 628, 629, 630, 631, 632] (by decide +kernel)
theorem dk_fld_ok : dk_fldT.all (fun q => dk_wk (dk_fldW q) && decide (q.2.1 < 7) && decide (q.2.2.1 < dk_N q.2.1) && decide (q.2.2.2.1 = dk_ft q.2.1 q.2.2.1)) = true := by decide +kernel
set_option maxRecDepth 20000 in
theorem dk_u0 : ∀ w ∈ u_ws (dk_R 0) (dk_T 0) (dk_N 0), w ∈ lw_tbl := dk_byP [108, 110, 112, 114] (by decide +kernel)
theorem dk_nm0 : ∀ a, a < dk_N 0 → ∀ b, b < dk_N 0 → a ≠ b → (dk_T 0 a).2.1 ≠ (dk_T 0 b).2.1 := by decide +kernel
theorem dk_tk0 : ∀ k, k < dk_N 0 → parseFieldDescriptor (dk_T 0 k).2.2.1 = some (dk_ty 0 k) := by decide +kernel
theorem dk_own0 : ∀ k, k < dk_N 0 → (dk_T 0 k).1 = dk_R 0 := by decide +kernel
set_option maxRecDepth 20000 in
theorem dk_u1 : ∀ w ∈ u_ws (dk_R 1) (dk_T 1) (dk_N 1), w ∈ lw_tbl := dk_byP [46, 48, 50, 52, 54, 56] (by decide +kernel)
theorem dk_nm1 : ∀ a, a < dk_N 1 → ∀ b, b < dk_N 1 → a ≠ b → (dk_T 1 a).2.1 ≠ (dk_T 1 b).2.1 := by decide +kernel
theorem dk_tk1 : ∀ k, k < dk_N 1 → parseFieldDescriptor (dk_T 1 k).2.2.1 = some (dk_ty 1 k) := by decide +kernel
theorem dk_own1 : ∀ k, k < dk_N 1 → (dk_T 1 k).1 = dk_R 1 := by decide +kernel
set_option maxRecDepth 20000 in
theorem dk_u2 : ∀ w ∈ u_ws (dk_R 2) (dk_T 2) (dk_N 2), w ∈ lw_tbl := dk_byP [140, 142, 144, 146, 148, 150, 152, 154, 156, 158, 160, 162, 164, 166] (by decide +kernel)
theorem dk_nm2 : ∀ a, a < dk_N 2 → ∀ b, b < dk_N 2 → a ≠ b → (dk_T 2 a).2.1 ≠ (dk_T 2 b).2.1 := by decide +kernel
theorem dk_tk2 : ∀ k, k < dk_N 2 → parseFieldDescriptor (dk_T 2 k).2.2.1 = some (dk_ty 2 k) := by decide +kernel
theorem dk_own2 : ∀ k, k < dk_N 2 → (dk_T 2 k).1 = dk_R 2 := by decide +kernel
set_option maxRecDepth 20000 in
theorem dk_u3 : ∀ w ∈ u_ws (dk_R 3) (dk_T 3) (dk_N 3), w ∈ lw_tbl := dk_byP [81, 83, 85, 87, 89, 91] (by decide +kernel)
theorem dk_nm3 : ∀ a, a < dk_N 3 → ∀ b, b < dk_N 3 → a ≠ b → (dk_T 3 a).2.1 ≠ (dk_T 3 b).2.1 := by decide +kernel
theorem dk_tk3 : ∀ k, k < dk_N 3 → parseFieldDescriptor (dk_T 3 k).2.2.1 = some (dk_ty 3 k) := by decide +kernel
theorem dk_own3 : ∀ k, k < dk_N 3 → (dk_T 3 k).1 = dk_R 3 := by decide +kernel
set_option maxRecDepth 20000 in
theorem dk_u4 : ∀ w ∈ u_ws (dk_R 4) (dk_T 4) (dk_N 4), w ∈ lw_tbl := dk_byP [182, 184, 186, 188] (by decide +kernel)
theorem dk_nm4 : ∀ a, a < dk_N 4 → ∀ b, b < dk_N 4 → a ≠ b → (dk_T 4 a).2.1 ≠ (dk_T 4 b).2.1 := by decide +kernel
theorem dk_tk4 : ∀ k, k < dk_N 4 → parseFieldDescriptor (dk_T 4 k).2.2.1 = some (dk_ty 4 k) := by decide +kernel
theorem dk_own4 : ∀ k, k < dk_N 4 → (dk_T 4 k).1 = dk_R 4 := by decide +kernel
set_option maxRecDepth 20000 in
theorem dk_u5 : ∀ w ∈ u_ws (dk_R 5) (dk_T 5) (dk_N 5), w ∈ lw_tbl := dk_byP [197, 199, 201, 203, 205, 207] (by decide +kernel)
theorem dk_nm5 : ∀ a, a < dk_N 5 → ∀ b, b < dk_N 5 → a ≠ b → (dk_T 5 a).2.1 ≠ (dk_T 5 b).2.1 := by decide +kernel
theorem dk_tk5 : ∀ k, k < dk_N 5 → parseFieldDescriptor (dk_T 5 k).2.2.1 = some (dk_ty 5 k) := by decide +kernel
theorem dk_own5 : ∀ k, k < dk_N 5 → (dk_T 5 k).1 = dk_R 5 := by decide +kernel
set_option maxRecDepth 20000 in
theorem dk_u6 : ∀ w ∈ u_ws (dk_R 6) (dk_T 6) (dk_N 6), w ∈ lw_tbl := dk_byP [633, 635, 637, 639, 641, 643, 645, 647, 649, 651, 653, 655, 657, 659, 661, 663, 665, 667, 669, 671, 673, 675, 677, 679, 681, 683, 685, 687] (by decide +kernel)
theorem dk_nm6 : ∀ a, a < dk_N 6 → ∀ b, b < dk_N 6 → a ≠ b → (dk_T 6 a).2.1 ≠ (dk_T 6 b).2.1 := by decide +kernel
theorem dk_tk6 : ∀ k, k < dk_N 6 → parseFieldDescriptor (dk_T 6 k).2.2.1 = some (dk_ty 6 k) := by decide +kernel
theorem dk_own6 : ∀ k, k < dk_N 6 → (dk_T 6 k).1 = dk_R 6 := by decide +kernel
theorem dk_u {c : Nat} (hc : c < 7) : ∀ w ∈ u_ws (dk_R c) (dk_T c) (dk_N c), w ∈ lw_tbl := by
  match c, hc with
  | 0, _ => exact dk_u0
  | 1, _ => exact dk_u1
  | 2, _ => exact dk_u2
  | 3, _ => exact dk_u3
  | 4, _ => exact dk_u4
  | 5, _ => exact dk_u5
  | 6, _ => exact dk_u6
  | n + 7, hc => omega
theorem dk_nm {c : Nat} (hc : c < 7) : ∀ a, a < dk_N c → ∀ b, b < dk_N c → a ≠ b → (dk_T c a).2.1 ≠ (dk_T c b).2.1 := by
  match c, hc with
  | 0, _ => exact dk_nm0
  | 1, _ => exact dk_nm1
  | 2, _ => exact dk_nm2
  | 3, _ => exact dk_nm3
  | 4, _ => exact dk_nm4
  | 5, _ => exact dk_nm5
  | 6, _ => exact dk_nm6
  | n + 7, hc => omega
theorem dk_tk {c : Nat} (hc : c < 7) : ∀ k, k < dk_N c → parseFieldDescriptor (dk_T c k).2.2.1 = some (dk_ty c k) := by
  match c, hc with
  | 0, _ => exact dk_tk0
  | 1, _ => exact dk_tk1
  | 2, _ => exact dk_tk2
  | 3, _ => exact dk_tk3
  | 4, _ => exact dk_tk4
  | 5, _ => exact dk_tk5
  | 6, _ => exact dk_tk6
  | n + 7, hc => omega
theorem dk_own {c : Nat} (hc : c < 7) : ∀ k, k < dk_N c → (dk_T c k).1 = dk_R c := by
  match c, hc with
  | 0, _ => exact dk_own0
  | 1, _ => exact dk_own1
  | 2, _ => exact dk_own2
  | 3, _ => exact dk_own3
  | 4, _ => exact dk_own4
  | 5, _ => exact dk_own5
  | 6, _ => exact dk_own6
  | n + 7, hc => omega
theorem dk_clAt {c : Nat} (hc : c < 7) : dk_cl[c]? = some (dk_R c, dk_T c, dk_N c) := by
  match c, hc with
  | 0, _ => rfl
  | 1, _ => rfl
  | 2, _ => rfl
  | 3, _ => rfl
  | 4, _ => rfl
  | 5, _ => rfl
  | 6, _ => rfl
  | n + 7, hc => omega
theorem dk_nodup : dk_sch.Nodup := by decide +kernel
theorem dk_schlen : dk_sch.length = 181 := by decide +kernel
theorem dk_ocL (mi : Nat) : dk_oc mi < 8 := by
  unfold dk_oc
  split <;> decide
/-- what a field's entry gives -/
theorem dk_fld_spec {mi ix ci f ty : Nat} {nest : Bool} (h : dk_fld mi ix = some (ci, f, ty, nest)) (hix : ix < 1000) : ci < 7 ∧ f < dk_N ci ∧ ty = dk_ft ci f ∧
    (if nest = true then Cond.fieldLinkNest (dk_R (dk_oc mi)) ix (dk_R ci) (dk_T ci f).2.1 (dk_T ci f).2.2.1 (dk_R 5) ∈ lw_tbl else Cond.fieldLink (dk_R (dk_oc mi)) ix (dk_R ci) (dk_T ci f).2.1 (dk_T ci f).2.2.1 ∈ lw_tbl ∧ goodWord (Cond.fieldLink (dk_R (dk_oc mi)) ix (dk_R ci) (dk_T ci f).2.1 (dk_T ci f).2.2.1) = true) := by
  have hm := dk_find_mem _ _ _ h
  have h1 := List.all_eq_true.mp dk_fld_ok _ hm
  have h2 := dk_fld_in _ (List.mem_map_of_mem (f := dk_fldW) hm)
  simp only [Bool.and_eq_true, decide_eq_true_eq] at h1
  obtain ⟨⟨⟨a1, a2⟩, a3⟩, a4⟩ := h1
  refine ⟨a2, a3, a4, ?_⟩
  have e1 : (1000 * dk_oc mi + ix) / 1000 = dk_oc mi := by omega
  have e2 : (1000 * dk_oc mi + ix) % 1000 = ix := by omega
  cases nest
  · simp only [dk_fldW, e1, e2] at h2 a1
    exact ⟨h2, a1⟩
  · simp only [dk_fldW, e1, e2] at h2
    exact h2
