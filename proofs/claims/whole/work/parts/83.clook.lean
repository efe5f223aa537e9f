/-! the class looks -/
section
variable {L : Nat} {N : dkNN} {V : dkVV} {E : dkEE} {W : dkWW} {T : Nat} {m : dkM} {l : Int64} {k q : Nat} {p : Nat}
theorem cl_36_past {m' : dkM} (hp : p < 16) (hC : PC N V E W T m) (hB : BD N E W T) (h3 : N 3 p = 1) (hl : (E (N 17 (4 * p + N 8 p))).length ≤ N 9 p) (h : dk_Ev L (33, 0, [(0, vR (2, p, 0))], [], (m, l, .inl (), k, q)) ((m', l, .inl (), k, q), .inl none)) : dk_Ev L (36, 0, [(0, vR (0, 0, 0)), (1, vR (2, p, 0))], [], (m, l, .inl (), k, q)) ((m', l, .inl (), k, q), .inl none) := by
  have hP := hC.1 p hp
  have hbp := hB.1 p hp
  have c8 : m (2, p, 0) 8 = cI (N 8 p) := hP.2.2.2.2.2.2.2.2.2.1 (by omega)
  have c9 : m (2, p, 0) 9 = cI (N 9 p) := (hP.2.2.2.2.2.2.2.2.2.2.1 (by omega)).1
  have b9 : N 9 p ≤ 64 := (hbp.2.2.2.2.2.2.2.2.2.1 (by omega)).1
  have g8 : N 8 p < 4 := by have := hbp.2.2.2.2.2.2.2.2.1 (by omega); have := hbp.2.1; omega
  have g1 : m (5, p, N 8 p) 1 = cI (N 17 (4 * p + N 8 p)) := (hC.2.1 p hp (N 8 p) g8).2.1
  have hc : N 17 (4 * p + N 8 p) < 8 := (hB.2.1 (4 * p + N 8 p) (by omega)).2.1
  have z : m (7, N 17 (4 * p + N 8 p), 0) 3 = cI (E (N 17 (4 * p + N 8 p))).length := (hC.2.2.1 _ hc).1
  refine sg_36_0 ⟨rfl, rfl, rfl, rfl, trivial⟩ rfl ?_
  simp (disch := omega) only [↓reduceIte, c8, c9, g1, z, cI_lt, cI_nat, cI_inj, if_pos, if_neg]
  exact dk_ex_run (kv_36_30 h (sg_36_33 trivial rfl dk_ex_some))
theorem cl_33n {j : Nat} (hp : p < 16) (hC : PC N V E W T m) (hB : BD N E W T) (h3 : N 3 p = 1) (hj : dk_nx N p (N 1 p - (N 8 p + 1)) (N 8 p + 1) = j + 1) : ∃ m', dk_Ev L (33, 0, [(0, vR (2, p, 0))], [], (m, l, .inl (), k, q)) ((m', l, .inl (), k, q), .inl none) ∧ PC (nQ N p 1 j 0 (N 10 p)) V E W T m' ∧ FrC m m' := by
  have hP := hC.1 p hp
  have hbp := hB.1 p hp
  have c7 : m (2, p, 0) 7 = cI (N 3 p) := hP.2.2.2.2.1
  have c8 : m (2, p, 0) 8 = cI (N 8 p) := hP.2.2.2.2.2.2.2.2.2.1 (by omega)
  have c10 : m (2, p, 0) 10 = cI (N 10 p) := (hP.2.2.2.2.2.2.2.2.2.2.1 (by omega)).2
  have g8 : N 8 p < N 1 p := (hbp.2.2.2.2.2.2.2.2.1 (by omega)).1
  have hl := hbp.2.1
  have hg := cl_gof (L := L) (l := l) (k := k) (q := q) (GrC_of hp hC hB) (g := N 8 p + 1) (by omega)
  rw [hj] at hg
  refine ⟨dk_up (dk_up m (2, p, 0) 8 (cI j)) (2, p, 0) 9 (cI 0), sg_33_0 ⟨rfl, rfl, trivial⟩ rfl ?_, ?_, ?_⟩
  · simp only [c8, cI_add]
    refine dk_ex_run (kv_33_7 hg (sg_33_10 ⟨rfl, rfl, trivial⟩ rfl ?_))
    have hjb : j < 4 := by have := dk_nx_le (N := N) (p := p) (N 1 p - (N 8 p + 1)) (N 8 p + 1); omega
    have hne : ¬ cJ (j + 1) = cJ 0 := fun c => by rw [cJ_inj (by omega) (by omega)] at c; omega
    simp only [if_neg hne]
    exact dk_ex_some
  · refine PC_pr hC (by omega) (fun h => by omega) (fun h => by omega) (fun a g h => ?_) (by simp [dk_up, c7, h3]) (fun _ => by simp [dk_up]) (fun _ => by simp [dk_up, c10])
    have n8 : ¬ (a = (2, p, 0) ∧ g = 8) := fun e => h ⟨e.1, by omega⟩
    have n9 : ¬ (a = (2, p, 0) ∧ g = 9) := fun e => h ⟨e.1, by omega⟩
    simp only [dk_up, n8, n9, if_false]
  · exact FrC_up (Nat.le_of_ble_eq_true rfl) (FrC_up (Nat.le_of_ble_eq_true rfl) FrC_refl)
theorem cl_33s (hp : p < 16) (hC : PC N V E W T m) (hB : BD N E W T) (h3 : N 3 p = 1) (h10 : N 10 p = 1) (hj : dk_nx N p (N 1 p - (N 8 p + 1)) (N 8 p + 1) = 0) : ∃ m', dk_Ev L (33, 0, [(0, vR (2, p, 0))], [], (m, l, .inl (), k, q)) ((m', l, .inl (), k, q), .inl none) ∧ PC (nQ N p 7 0 0 0) V E W T m' ∧ FrC m m' := by
  have hP := hC.1 p hp
  have hbp := hB.1 p hp
  have c8 : m (2, p, 0) 8 = cI (N 8 p) := hP.2.2.2.2.2.2.2.2.2.1 (by omega)
  have c10 : m (2, p, 0) 10 = cI (N 10 p) := (hP.2.2.2.2.2.2.2.2.2.2.1 (by omega)).2
  have g8 : N 8 p < N 1 p := (hbp.2.2.2.2.2.2.2.2.1 (by omega)).1
  have hl := hbp.2.1
  have hg := cl_gof (L := L) (l := l) (k := k) (q := q) (GrC_of hp hC hB) (g := N 8 p + 1) (by omega)
  rw [hj] at hg
  refine ⟨dk_up m (2, p, 0) 7 (cI 7), sg_33_0 ⟨rfl, rfl, trivial⟩ rfl ?_, ?_, ?_⟩
  · simp only [c8, cI_add]
    refine dk_ex_run (kv_33_7 hg (sg_33_10 ⟨rfl, rfl, trivial⟩ rfl ?_))
    simp (disch := omega) only [↓reduceIte, c10, h10, cI_inj, Nat.reduceEqDiff]
    exact dk_ex_some
  · exact PC_pr hC (by omega) (fun h => by omega) (fun h => by omega) (fun a g h => if_neg (fun e => h ⟨e.1, by omega⟩)) dk_up_eq (fun h => by omega) (fun h => by omega)
  · exact FrC_up (Nat.le_of_ble_eq_true rfl) FrC_refl
theorem cl_33l {j : Nat} (hp : p < 16) (hC : PC N V E W T m) (hB : BD N E W T) (h3 : N 3 p = 1) (h10 : N 10 p = 0) (hj : dk_nx N p (N 1 p - (N 8 p + 1)) (N 8 p + 1) = 0) (hj0 : dk_nx N p (N 1 p) 0 = j + 1) : ∃ m', dk_Ev L (33, 0, [(0, vR (2, p, 0))], [], (m, l, .inl (), k, q)) ((m', l, .inl (), k, q), .inl none) ∧ PC (nQ N p 1 j 0 1) V E W T m' ∧ FrC m m' := by
  have hP := hC.1 p hp
  have hbp := hB.1 p hp
  have c8 : m (2, p, 0) 8 = cI (N 8 p) := hP.2.2.2.2.2.2.2.2.2.1 (by omega)
  have c10 : m (2, p, 0) 10 = cI (N 10 p) := (hP.2.2.2.2.2.2.2.2.2.2.1 (by omega)).2
  have g8 : N 8 p < N 1 p := (hbp.2.2.2.2.2.2.2.2.1 (by omega)).1
  have hl := hbp.2.1
  have hG := GrC_of hp hC hB
  have hg := cl_gof (L := L) (l := l) (k := k) (q := q) hG (g := N 8 p + 1) (by omega)
  rw [hj] at hg
  refine ⟨dk_up (dk_up (dk_up (dk_up m (2, p, 0) 8 (cI j)) (2, p, 0) 9 (cI 0)) (2, p, 0) 10 (cI 1)) (2, p, 0) 7 (cI 1), sg_33_0 ⟨rfl, rfl, trivial⟩ rfl ?_, ?_, ?_⟩
  · simp only [c8, cI_add]
    refine dk_ex_run (kv_33_7 hg (sg_33_10 ⟨rfl, rfl, trivial⟩ rfl ?_))
    simp only [↓reduceIte, c10, h10]
    exact dk_ex_run (kv_33_46 (cl_31 hG hj0) (sg_33_49 trivial rfl dk_ex_some))
  · exact PC_pr hC (by omega) (fun h => by omega) (fun h => by omega) (fun a g h => by
      have n7 : ¬ (a = (2, p, 0) ∧ g = 7) := fun e => h ⟨e.1, by omega⟩
      have n8 : ¬ (a = (2, p, 0) ∧ g = 8) := fun e => h ⟨e.1, by omega⟩
      have n9 : ¬ (a = (2, p, 0) ∧ g = 9) := fun e => h ⟨e.1, by omega⟩
      have n10 : ¬ (a = (2, p, 0) ∧ g = 10) := fun e => h ⟨e.1, by omega⟩
      simp only [dk_up, n7, n8, n9, n10, if_false]) dk_up_eq (fun _ => by simp [dk_up]) (fun _ => by simp [dk_up])
  · repeat (first | refine FrC_up (Nat.le_of_ble_eq_true rfl) ?_ | exact FrC_refl)
theorem cl_36_at {e : Nat × Nat} (hp : p < 16) (hC : PC N V E W T m) (hB : BD N E W T) (h3 : N 3 p = 1) (he : (E (N 17 (4 * p + N 8 p)))[N 9 p]? = some e) : ∃ m', dk_Ev L (36, 0, [(0, vR (0, 0, 0)), (1, vR (2, p, 0))], [], (m, l, .inl (), k, q)) ((m', l, .inl (), k, q), .inl none) ∧ PC (if e.1 / 4 ≠ p ∧ N 16 e.1 ≠ N 16 (4 * p + N 8 p) then nU (nU (nU (nU N 11 p (e.1 / 4)) 12 p e.2) 13 p (e.1 % 4)) 3 p 2 else nQ N p 1 (N 8 p) (N 9 p + 1) (N 10 p)) V E W T m' ∧ FrC m m' := by
  have hP := hC.1 p hp
  have hbp := hB.1 p hp
  have c0 : m (2, p, 0) 0 = cI p := hP.1
  have c7 : m (2, p, 0) 7 = cI (N 3 p) := hP.2.2.2.2.1
  have c8 : m (2, p, 0) 8 = cI (N 8 p) := hP.2.2.2.2.2.2.2.2.2.1 (by omega)
  obtain ⟨c9, c10⟩ := (hP.2.2.2.2.2.2.2.2.2.2.1 (by omega))
  have b9 : N 9 p ≤ 64 := (hbp.2.2.2.2.2.2.2.2.2.1 (by omega)).1
  have g8 : N 8 p < 4 := by have := hbp.2.2.2.2.2.2.2.2.1 (by omega); have := hbp.2.1; omega
  obtain ⟨g0, g1, -, -⟩ := hC.2.1 p hp (N 8 p) g8
  have hgb := hB.2.1 (4 * p + N 8 p) (by omega)
  have hc : N 17 (4 * p + N 8 p) < 8 := hgb.2.1
  have k0 : N 16 (4 * p + N 8 p) ≤ 1 := hgb.1
  have hlen : N 9 p < (E (N 17 (4 * p + N 8 p))).length := (List.getElem?_eq_some_iff.1 he).1
  have hle : (E (N 17 (4 * p + N 8 p))).length ≤ 64 := (hB.2.2.1 _ hc).1
  have z : m (7, N 17 (4 * p + N 8 p), 0) 3 = cI (E (N 17 (4 * p + N 8 p))).length := (hC.2.2.1 _ hc).1
  obtain ⟨y0, y1, y2⟩ := (hC.2.2.1 _ hc).2 _ _ he
  obtain ⟨b1, b2⟩ := (hB.2.2.1 _ hc).2 e (List.mem_of_getElem? he)
  have ke : m (5, e.1 / 4, e.1 % 4) 0 = cI (N 16 e.1) := by
    have := (hC.2.1 (e.1 / 4) (by omega) (e.1 % 4) (by omega)).1
    rwa [Nat.div_add_mod] at this
  have k1 : N 16 e.1 ≤ 1 := (hB.2.1 e.1 b1).1
  by_cases a1 : e.1 / 4 = p
  · refine ⟨dk_up (dk_up m (2, p, 0) 9 (cI (N 9 p + 1))) (2, p, 0) 7 (cI 1), sg_36_0 ⟨rfl, rfl, rfl, rfl, trivial⟩ rfl ?_, ?_, ?_⟩
    · simp (disch := omega) only [↓reduceIte, c0, c8, c9, g1, z, y0, y2, cI_lt, cI_nat, cI_inj, cI_add, if_pos, if_neg]
      exact dk_ex_some
    · rw [if_neg (fun h => h.1 a1)]
      exact PC_pr hC (by omega) (fun _ => by omega) (fun h => by omega) (fun a g h => by
        have n7 : ¬ (a = (2, p, 0) ∧ g = 7) := fun e => h ⟨e.1, by omega⟩
        have n9 : ¬ (a = (2, p, 0) ∧ g = 9) := fun e => h ⟨e.1, by omega⟩
        simp only [dk_up, n7, n9, if_false]) dk_up_eq (fun _ => by simp [dk_up, c8]) (fun _ => by simp [dk_up, c10])
    · exact FrC_up (Nat.le_of_ble_eq_true rfl) (FrC_up (Nat.le_of_ble_eq_true rfl) FrC_refl)
  · by_cases a2 : N 16 e.1 = N 16 (4 * p + N 8 p)
    · refine ⟨dk_up (dk_up m (2, p, 0) 9 (cI (N 9 p + 1))) (2, p, 0) 7 (cI 1), sg_36_0 ⟨rfl, rfl, rfl, rfl, trivial⟩ rfl ?_, ?_, ?_⟩
      · simp (disch := omega) only [↓reduceIte, c0, c8, c9, g0, g1, z, y0, y2, ke, cI_lt, cI_nat, cI_inj, cI_add, if_pos, if_neg]
        exact dk_ex_some
      · rw [if_neg (fun h => h.2 a2)]
        exact PC_pr hC (by omega) (fun _ => by omega) (fun h => by omega) (fun a g h => by
          have n7 : ¬ (a = (2, p, 0) ∧ g = 7) := fun e => h ⟨e.1, by omega⟩
          have n9 : ¬ (a = (2, p, 0) ∧ g = 9) := fun e => h ⟨e.1, by omega⟩
          simp only [dk_up, n7, n9, if_false]) dk_up_eq (fun _ => by simp [dk_up, c8]) (fun _ => by simp [dk_up, c10])
      · exact FrC_up (Nat.le_of_ble_eq_true rfl) (FrC_up (Nat.le_of_ble_eq_true rfl) FrC_refl)
    · refine ⟨dk_up (dk_up (dk_up (dk_up m (2, p, 0) 11 (cI (e.1 / 4))) (2, p, 0) 12 (cI e.2)) (2, p, 0) 13 (cI (e.1 % 4))) (2, p, 0) 7 (cI 2), sg_36_0 ⟨rfl, rfl, rfl, rfl, trivial⟩ rfl ?_, ?_, ?_⟩
      · simp (disch := omega) only [↓reduceIte, c0, c8, c9, g0, g1, z, y0, y1, y2, ke, cI_lt, cI_nat, cI_inj, cI_add, dk_up_f, dk_up_k, if_pos, if_neg]
        exact dk_ex_some
      · rw [if_pos ⟨a1, a2⟩]
        exact PC_found hC h3
      · repeat (first | refine FrC_up (Nat.le_of_ble_eq_true rfl) ?_ | exact FrC_refl)
end
