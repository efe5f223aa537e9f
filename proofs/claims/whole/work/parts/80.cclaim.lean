/-! the class claims, gives back, tells, ends -/
section
variable {L : Nat} {N : dkNN} {V : dkVV} {E : dkEE} {W : dkWW} {T : Nat} {m : dkM} {l : Int64} {k q : Nat} {p f : Nat}
theorem cl_47_2a (hp : p < 16) (hC : PC N V E W T m) (hB : BD N E W T) (h3 : N 3 p = 2) (hf : (f = p ∧ p < N 11 p) ∨ (f = N 11 p ∧ N 11 p < p)) (hr : f = p ∨ N 5 f = N 12 p) (h4 : N 4 f = 1) : ∃ m', dk_Ev L (47, 0, [(0, vR (0, 0, 0)), (1, vR (2, p, 0))], [], (m, l, .inl (), k, q)) ((m', l, .inl (), k, q), .inl none) ∧ PC (nU (nU (nU N 4 f 2) 6 f (p + 1)) 3 p 3) V E W T m' ∧ FrC m m' := by
  have hP := hC.1 p hp
  have hbp := hB.1 p hp
  have c0 : m (2, p, 0) 0 = cI p := hP.1
  have c7 : m (2, p, 0) 7 = cI (N 3 p) := hP.2.2.2.2.1
  have s0 : m (3, p, 0) 0 = cI (N 4 p) := hP.2.2.2.2.2.1
  have s1 : m (3, p, 0) 1 = cI (N 5 p) := hP.2.2.2.2.2.2.1
  have hw : N 11 p < 16 ∧ N 12 p ≤ 600 ∧ N 13 p < 4 ∧ N 11 p ≠ p := hbp.2.2.2.2.2.2.2.2.2.2 (by omega)
  obtain ⟨c11, c12, c13⟩ : m (2, p, 0) 11 = cI (N 11 p) ∧ m (2, p, 0) 12 = cI (N 12 p) ∧ m (2, p, 0) 13 = cI (N 13 p) := hP.2.2.2.2.2.2.2.2.2.2.2.1 (by omega)
  have c8 : m (2, p, 0) 8 = cI (N 8 p) := hP.2.2.2.2.2.2.2.2.2.1 (by omega)
  have hQ := hC.1 (N 11 p) hw.1
  have w0 : m (2, N 11 p, 0) 0 = cI (N 11 p) := hQ.1
  have t0 : m (3, N 11 p, 0) 0 = cI (N 4 (N 11 p)) := hQ.2.2.2.2.2.1
  have t1 : m (3, N 11 p, 0) 1 = cI (N 5 (N 11 p)) := hQ.2.2.2.2.2.2.1
  have bw : N 4 (N 11 p) ≤ 3 ∧ N 5 (N 11 p) ≤ 600 := by have := hB.1 (N 11 p) hw.1; exact ⟨this.2.2.2.2.1, this.2.2.2.2.2.1⟩
  have bp : N 4 p ≤ 3 ∧ N 5 p ≤ 600 := ⟨hbp.2.2.2.2.1, hbp.2.2.2.2.2.1⟩
  obtain ⟨c9, c10⟩ : m (2, p, 0) 9 = cI (N 9 p) ∧ m (2, p, 0) 10 = cI (N 10 p) := hP.2.2.2.2.2.2.2.2.2.2.1 (by omega)
  refine ⟨dk_up (dk_up (dk_up m (3, f, 0) 0 (cI 2)) (3, f, 0) 2 (cI p)) (2, p, 0) 7 (cI 3), ?_, ?_, by repeat (first | refine FrC_up (Nat.le_of_ble_eq_true rfl) ?_ | exact FrC_refl)⟩
  · rw [h3] at c7
    refine sg_47_0 ⟨rfl, rfl, rfl, rfl, trivial⟩ rfl ?_
    rcases hf with ⟨e, h⟩ | ⟨e, h⟩
    · subst e
      simp (disch := first | omega | (simp only [Prod.mk.injEq, ne_eq, not_and]; omega)) only [↓reduceIte, c0, c7, c8, c9, c10, c11, c12, c13, s0, s1, w0, t0, t1, cI_lt, cI_nat, cI_inj, cI_add, dk_up_eq, dk_up_k, dk_up_f, if_pos, if_neg, Nat.reduceEqDiff]
      exact dk_ex_some
    · subst e
      simp (disch := first | omega | (simp only [Prod.mk.injEq, ne_eq, not_and]; omega)) only [↓reduceIte, c0, c7, c8, c9, c10, c11, c12, c13, s0, s1, w0, t0, t1, cI_lt, cI_nat, cI_inj, cI_add, dk_up_eq, dk_up_k, dk_up_f, if_pos, if_neg, Nat.reduceEqDiff]
      exact dk_ex_some
  · have h1 := PC_mk (f := f) (x4 := 2) (x6 := p + 1) hC (fun h => by omega)
    have e8 : nU (nU N 4 f 2) 6 f (p + 1) 8 p = N 8 p := rfl
    have e9 : nU (nU N 4 f 2) 6 f (p + 1) 9 p = N 9 p := rfl
    have e10 : nU (nU N 4 f 2) 6 f (p + 1) 10 p = N 10 p := rfl
    have h2 := PC_pr (p := p) (x3 := 3) (x8 := N 8 p) (x9 := N 9 p) (x10 := N 10 p) (m' := dk_up (dk_up (dk_up m (3, f, 0) 0 (cI 2)) (3, f, 0) 2 (cI p)) (2, p, 0) 7 (cI 3)) h1 (by simp [nU, h3]) (fun _ => by simp [nU, h3]) (fun h => by omega) (fun a g h => if_neg (fun e => h ⟨e.1, Or.inl e.2⟩)) dk_up_eq (fun _ => by simp [dk_up, c8]) (fun _ => by simp [dk_up, c9, c10])
    rw [nQ, ← e8, nU_self, ← e9, nU_self, ← e10, nU_self] at h2
    exact h2
theorem cl_47_2b (hp : p < 16) (hC : PC N V E W T m) (hB : BD N E W T) (h3 : N 3 p = 2) (hf : (f = p ∧ p < N 11 p) ∨ (f = N 11 p ∧ N 11 p < p)) (hr : f = p ∨ N 5 f = N 12 p) (h4 : N 4 f = 2) : ∃ m', dk_Ev L (47, 0, [(0, vR (0, 0, 0)), (1, vR (2, p, 0))], [], (m, l, .inl (), k, q)) ((m', l, .inl (), k, q), .inl none) ∧ PC (nQ N p 1 (N 8 p) (N 9 p + 1) 0) V E W T m' ∧ FrC m m' := by
  have hP := hC.1 p hp
  have hbp := hB.1 p hp
  have c0 : m (2, p, 0) 0 = cI p := hP.1
  have c7 : m (2, p, 0) 7 = cI (N 3 p) := hP.2.2.2.2.1
  have s0 : m (3, p, 0) 0 = cI (N 4 p) := hP.2.2.2.2.2.1
  have s1 : m (3, p, 0) 1 = cI (N 5 p) := hP.2.2.2.2.2.2.1
  have hw : N 11 p < 16 ∧ N 12 p ≤ 600 ∧ N 13 p < 4 ∧ N 11 p ≠ p := hbp.2.2.2.2.2.2.2.2.2.2 (by omega)
  obtain ⟨c11, c12, c13⟩ : m (2, p, 0) 11 = cI (N 11 p) ∧ m (2, p, 0) 12 = cI (N 12 p) ∧ m (2, p, 0) 13 = cI (N 13 p) := hP.2.2.2.2.2.2.2.2.2.2.2.1 (by omega)
  have c8 : m (2, p, 0) 8 = cI (N 8 p) := hP.2.2.2.2.2.2.2.2.2.1 (by omega)
  have hQ := hC.1 (N 11 p) hw.1
  have w0 : m (2, N 11 p, 0) 0 = cI (N 11 p) := hQ.1
  have t0 : m (3, N 11 p, 0) 0 = cI (N 4 (N 11 p)) := hQ.2.2.2.2.2.1
  have t1 : m (3, N 11 p, 0) 1 = cI (N 5 (N 11 p)) := hQ.2.2.2.2.2.2.1
  have bw : N 4 (N 11 p) ≤ 3 ∧ N 5 (N 11 p) ≤ 600 := by have := hB.1 (N 11 p) hw.1; exact ⟨this.2.2.2.2.1, this.2.2.2.2.2.1⟩
  have bp : N 4 p ≤ 3 ∧ N 5 p ≤ 600 := ⟨hbp.2.2.2.2.1, hbp.2.2.2.2.2.1⟩
  obtain ⟨c9, c10⟩ : m (2, p, 0) 9 = cI (N 9 p) ∧ m (2, p, 0) 10 = cI (N 10 p) := hP.2.2.2.2.2.2.2.2.2.2.1 (by omega)
  refine ⟨dk_up (dk_up (dk_up m (2, p, 0) 10 (cI 0)) (2, p, 0) 9 (cI (N 9 p + 1))) (2, p, 0) 7 (cI 1), ?_, ?_, by repeat (first | refine FrC_up (Nat.le_of_ble_eq_true rfl) ?_ | exact FrC_refl)⟩
  · rw [h3] at c7
    refine sg_47_0 ⟨rfl, rfl, rfl, rfl, trivial⟩ rfl ?_
    rcases hf with ⟨e, h⟩ | ⟨e, h⟩
    · subst e
      simp (disch := first | omega | (simp only [Prod.mk.injEq, ne_eq, not_and]; omega)) only [↓reduceIte, c0, c7, c8, c9, c10, c11, c12, c13, s0, s1, w0, t0, t1, cI_lt, cI_nat, cI_inj, cI_add, dk_up_eq, dk_up_k, dk_up_f, if_pos, if_neg, Nat.reduceEqDiff]
      exact dk_ex_some
    · subst e
      simp (disch := first | omega | (simp only [Prod.mk.injEq, ne_eq, not_and]; omega)) only [↓reduceIte, c0, c7, c8, c9, c10, c11, c12, c13, s0, s1, w0, t0, t1, cI_lt, cI_nat, cI_inj, cI_add, dk_up_eq, dk_up_k, dk_up_f, if_pos, if_neg, Nat.reduceEqDiff]
      exact dk_ex_some
  · exact PC_pr hC (by omega) (fun _ => by omega) (fun h => by omega) (fun a g h => by
      have n7 : ¬ (a = (2, p, 0) ∧ g = 7) := fun e => h ⟨e.1, by omega⟩
      have n9 : ¬ (a = (2, p, 0) ∧ g = 9) := fun e => h ⟨e.1, by omega⟩
      have n10 : ¬ (a = (2, p, 0) ∧ g = 10) := fun e => h ⟨e.1, by omega⟩
      simp only [dk_up, n7, n9, n10, if_false]) dk_up_eq (fun _ => by simp [dk_up, c8]) (fun _ => by simp [dk_up, c9, c10])
theorem cl_47_2c (hp : p < 16) (hC : PC N V E W T m) (hB : BD N E W T) (h3 : N 3 p = 2) (hf : (f = p ∧ p < N 11 p) ∨ (f = N 11 p ∧ N 11 p < p)) (hr : (f = p ∨ N 5 f = N 12 p) → N 4 f ≠ 1 ∧ N 4 f ≠ 2) : ∃ m', dk_Ev L (47, 0, [(0, vR (0, 0, 0)), (1, vR (2, p, 0))], [], (m, l, .inl (), k, q)) ((m', l, .inl (), k, q), .inl none) ∧ PC (nQ N p 1 (N 8 p) (N 9 p + 1) (N 10 p)) V E W T m' ∧ FrC m m' := by
  have hP := hC.1 p hp
  have hbp := hB.1 p hp
  have c0 : m (2, p, 0) 0 = cI p := hP.1
  have c7 : m (2, p, 0) 7 = cI (N 3 p) := hP.2.2.2.2.1
  have s0 : m (3, p, 0) 0 = cI (N 4 p) := hP.2.2.2.2.2.1
  have s1 : m (3, p, 0) 1 = cI (N 5 p) := hP.2.2.2.2.2.2.1
  have hw : N 11 p < 16 ∧ N 12 p ≤ 600 ∧ N 13 p < 4 ∧ N 11 p ≠ p := hbp.2.2.2.2.2.2.2.2.2.2 (by omega)
  obtain ⟨c11, c12, c13⟩ : m (2, p, 0) 11 = cI (N 11 p) ∧ m (2, p, 0) 12 = cI (N 12 p) ∧ m (2, p, 0) 13 = cI (N 13 p) := hP.2.2.2.2.2.2.2.2.2.2.2.1 (by omega)
  have c8 : m (2, p, 0) 8 = cI (N 8 p) := hP.2.2.2.2.2.2.2.2.2.1 (by omega)
  have hQ := hC.1 (N 11 p) hw.1
  have w0 : m (2, N 11 p, 0) 0 = cI (N 11 p) := hQ.1
  have t0 : m (3, N 11 p, 0) 0 = cI (N 4 (N 11 p)) := hQ.2.2.2.2.2.1
  have t1 : m (3, N 11 p, 0) 1 = cI (N 5 (N 11 p)) := hQ.2.2.2.2.2.2.1
  have bw : N 4 (N 11 p) ≤ 3 ∧ N 5 (N 11 p) ≤ 600 := by have := hB.1 (N 11 p) hw.1; exact ⟨this.2.2.2.2.1, this.2.2.2.2.2.1⟩
  have bp : N 4 p ≤ 3 ∧ N 5 p ≤ 600 := ⟨hbp.2.2.2.2.1, hbp.2.2.2.2.2.1⟩
  obtain ⟨c9, c10⟩ : m (2, p, 0) 9 = cI (N 9 p) ∧ m (2, p, 0) 10 = cI (N 10 p) := hP.2.2.2.2.2.2.2.2.2.2.1 (by omega)
  refine ⟨dk_up (dk_up m (2, p, 0) 9 (cI (N 9 p + 1))) (2, p, 0) 7 (cI 1), ?_, ?_, by repeat (first | refine FrC_up (Nat.le_of_ble_eq_true rfl) ?_ | exact FrC_refl)⟩
  · rw [h3] at c7
    refine sg_47_0 ⟨rfl, rfl, rfl, rfl, trivial⟩ rfl ?_
    rcases hf with ⟨e, h⟩ | ⟨e, h⟩
    · subst e
      have hr := hr (Or.inl rfl)
      simp (disch := first | omega | (simp only [Prod.mk.injEq, ne_eq, not_and]; omega)) only [↓reduceIte, c0, c7, c8, c9, c10, c11, c12, c13, s0, s1, w0, t0, t1, cI_lt, cI_nat, cI_inj, cI_add, dk_up_eq, dk_up_k, dk_up_f, if_pos, if_neg, Nat.reduceEqDiff]
      exact dk_ex_some
    · subst e
      by_cases hv : N 5 (N 11 p) = N 12 p
      · have hr := hr (Or.inr hv)
        simp (disch := first | omega | (simp only [Prod.mk.injEq, ne_eq, not_and]; omega)) only [↓reduceIte, c0, c7, c8, c9, c10, c11, c12, c13, s0, s1, w0, t0, t1, cI_lt, cI_nat, cI_inj, cI_add, dk_up_eq, dk_up_k, dk_up_f, if_pos, if_neg, Nat.reduceEqDiff]
        exact dk_ex_some
      · simp (disch := first | omega | (simp only [Prod.mk.injEq, ne_eq, not_and]; omega)) only [↓reduceIte, c0, c7, c8, c9, c10, c11, c12, c13, s0, s1, w0, t0, t1, cI_lt, cI_nat, cI_inj, cI_add, dk_up_eq, dk_up_k, dk_up_f, if_pos, if_neg, Nat.reduceEqDiff]
        exact dk_ex_some
  · exact PC_pr hC (by omega) (fun _ => by omega) (fun h => by omega) (fun a g h => by
      have n7 : ¬ (a = (2, p, 0) ∧ g = 7) := fun e => h ⟨e.1, by omega⟩
      have n9 : ¬ (a = (2, p, 0) ∧ g = 9) := fun e => h ⟨e.1, by omega⟩
      have n10 : ¬ (a = (2, p, 0) ∧ g = 10) := fun e => h ⟨e.1, by omega⟩
      simp only [dk_up, n7, n9, n10, if_false]) dk_up_eq (fun _ => by simp [dk_up, c8]) (fun _ => by simp [dk_up, c9, c10])
theorem cl_47_3a (hp : p < 16) (hC : PC N V E W T m) (hB : BD N E W T) (h3 : N 3 p = 3) (hf : (f = p ∧ N 11 p < p) ∨ (f = N 11 p ∧ p < N 11 p)) (hr : f = p ∨ N 5 f = N 12 p) (h4 : N 4 f = 1) : ∃ m', dk_Ev L (47, 0, [(0, vR (0, 0, 0)), (1, vR (2, p, 0))], [], (m, l, .inl (), k, q)) ((m', l, .inl (), k, q), .inl none) ∧ PC (nU (nU (nU N 4 f 2) 6 f (p + 1)) 3 p 5) V E W T m' ∧ FrC m m' := by
  have hP := hC.1 p hp
  have hbp := hB.1 p hp
  have c0 : m (2, p, 0) 0 = cI p := hP.1
  have c7 : m (2, p, 0) 7 = cI (N 3 p) := hP.2.2.2.2.1
  have s0 : m (3, p, 0) 0 = cI (N 4 p) := hP.2.2.2.2.2.1
  have s1 : m (3, p, 0) 1 = cI (N 5 p) := hP.2.2.2.2.2.2.1
  have hw : N 11 p < 16 ∧ N 12 p ≤ 600 ∧ N 13 p < 4 ∧ N 11 p ≠ p := hbp.2.2.2.2.2.2.2.2.2.2 (by omega)
  obtain ⟨c11, c12, c13⟩ : m (2, p, 0) 11 = cI (N 11 p) ∧ m (2, p, 0) 12 = cI (N 12 p) ∧ m (2, p, 0) 13 = cI (N 13 p) := hP.2.2.2.2.2.2.2.2.2.2.2.1 (by omega)
  have c8 : m (2, p, 0) 8 = cI (N 8 p) := hP.2.2.2.2.2.2.2.2.2.1 (by omega)
  have hQ := hC.1 (N 11 p) hw.1
  have w0 : m (2, N 11 p, 0) 0 = cI (N 11 p) := hQ.1
  have t0 : m (3, N 11 p, 0) 0 = cI (N 4 (N 11 p)) := hQ.2.2.2.2.2.1
  have t1 : m (3, N 11 p, 0) 1 = cI (N 5 (N 11 p)) := hQ.2.2.2.2.2.2.1
  have bw : N 4 (N 11 p) ≤ 3 ∧ N 5 (N 11 p) ≤ 600 := by have := hB.1 (N 11 p) hw.1; exact ⟨this.2.2.2.2.1, this.2.2.2.2.2.1⟩
  have bp : N 4 p ≤ 3 ∧ N 5 p ≤ 600 := ⟨hbp.2.2.2.2.1, hbp.2.2.2.2.2.1⟩
  obtain ⟨c9, c10⟩ : m (2, p, 0) 9 = cI (N 9 p) ∧ m (2, p, 0) 10 = cI (N 10 p) := hP.2.2.2.2.2.2.2.2.2.2.1 (by omega)
  refine ⟨dk_up (dk_up (dk_up m (3, f, 0) 0 (cI 2)) (3, f, 0) 2 (cI p)) (2, p, 0) 7 (cI 5), ?_, ?_, by repeat (first | refine FrC_up (Nat.le_of_ble_eq_true rfl) ?_ | exact FrC_refl)⟩
  · rw [h3] at c7
    refine sg_47_0 ⟨rfl, rfl, rfl, rfl, trivial⟩ rfl ?_
    rcases hf with ⟨e, h⟩ | ⟨e, h⟩
    · subst e
      simp (disch := first | omega | (simp only [Prod.mk.injEq, ne_eq, not_and]; omega)) only [↓reduceIte, c0, c7, c8, c9, c10, c11, c12, c13, s0, s1, w0, t0, t1, cI_lt, cI_nat, cI_inj, cI_add, dk_up_eq, dk_up_k, dk_up_f, if_pos, if_neg, Nat.reduceEqDiff]
      exact dk_ex_some
    · subst e
      simp (disch := first | omega | (simp only [Prod.mk.injEq, ne_eq, not_and]; omega)) only [↓reduceIte, c0, c7, c8, c9, c10, c11, c12, c13, s0, s1, w0, t0, t1, cI_lt, cI_nat, cI_inj, cI_add, dk_up_eq, dk_up_k, dk_up_f, if_pos, if_neg, Nat.reduceEqDiff]
      exact dk_ex_some
  · have h1 := PC_mk (f := f) (x4 := 2) (x6 := p + 1) hC (fun h => by omega)
    have e8 : nU (nU N 4 f 2) 6 f (p + 1) 8 p = N 8 p := rfl
    have e9 : nU (nU N 4 f 2) 6 f (p + 1) 9 p = N 9 p := rfl
    have e10 : nU (nU N 4 f 2) 6 f (p + 1) 10 p = N 10 p := rfl
    have h2 := PC_pr (p := p) (x3 := 5) (x8 := N 8 p) (x9 := N 9 p) (x10 := N 10 p) (m' := dk_up (dk_up (dk_up m (3, f, 0) 0 (cI 2)) (3, f, 0) 2 (cI p)) (2, p, 0) 7 (cI 5)) h1 (by simp [nU, h3]) (fun _ => by simp [nU, h3]) (fun h => by omega) (fun a g h => if_neg (fun e => h ⟨e.1, Or.inl e.2⟩)) dk_up_eq (fun _ => by simp [dk_up, c8]) (fun _ => by simp [dk_up, c9, c10])
    rw [nQ, ← e8, nU_self, ← e9, nU_self, ← e10, nU_self] at h2
    exact h2
theorem cl_47_3b (hp : p < 16) (hC : PC N V E W T m) (hB : BD N E W T) (h3 : N 3 p = 3) (hf : (f = p ∧ N 11 p < p) ∨ (f = N 11 p ∧ p < N 11 p)) (hr : f = p ∨ N 5 f = N 12 p) (h4 : N 4 f = 2) : ∃ m', dk_Ev L (47, 0, [(0, vR (0, 0, 0)), (1, vR (2, p, 0))], [], (m, l, .inl (), k, q)) ((m', l, .inl (), k, q), .inl none) ∧ PC (nQ N p 4 (N 8 p) (N 9 p) 0) V E W T m' ∧ FrC m m' := by
  have hP := hC.1 p hp
  have hbp := hB.1 p hp
  have c0 : m (2, p, 0) 0 = cI p := hP.1
  have c7 : m (2, p, 0) 7 = cI (N 3 p) := hP.2.2.2.2.1
  have s0 : m (3, p, 0) 0 = cI (N 4 p) := hP.2.2.2.2.2.1
  have s1 : m (3, p, 0) 1 = cI (N 5 p) := hP.2.2.2.2.2.2.1
  have hw : N 11 p < 16 ∧ N 12 p ≤ 600 ∧ N 13 p < 4 ∧ N 11 p ≠ p := hbp.2.2.2.2.2.2.2.2.2.2 (by omega)
  obtain ⟨c11, c12, c13⟩ : m (2, p, 0) 11 = cI (N 11 p) ∧ m (2, p, 0) 12 = cI (N 12 p) ∧ m (2, p, 0) 13 = cI (N 13 p) := hP.2.2.2.2.2.2.2.2.2.2.2.1 (by omega)
  have c8 : m (2, p, 0) 8 = cI (N 8 p) := hP.2.2.2.2.2.2.2.2.2.1 (by omega)
  have hQ := hC.1 (N 11 p) hw.1
  have w0 : m (2, N 11 p, 0) 0 = cI (N 11 p) := hQ.1
  have t0 : m (3, N 11 p, 0) 0 = cI (N 4 (N 11 p)) := hQ.2.2.2.2.2.1
  have t1 : m (3, N 11 p, 0) 1 = cI (N 5 (N 11 p)) := hQ.2.2.2.2.2.2.1
  have bw : N 4 (N 11 p) ≤ 3 ∧ N 5 (N 11 p) ≤ 600 := by have := hB.1 (N 11 p) hw.1; exact ⟨this.2.2.2.2.1, this.2.2.2.2.2.1⟩
  have bp : N 4 p ≤ 3 ∧ N 5 p ≤ 600 := ⟨hbp.2.2.2.2.1, hbp.2.2.2.2.2.1⟩
  obtain ⟨c9, c10⟩ : m (2, p, 0) 9 = cI (N 9 p) ∧ m (2, p, 0) 10 = cI (N 10 p) := hP.2.2.2.2.2.2.2.2.2.2.1 (by omega)
  refine ⟨dk_up (dk_up m (2, p, 0) 10 (cI 0)) (2, p, 0) 7 (cI 4), ?_, ?_, by repeat (first | refine FrC_up (Nat.le_of_ble_eq_true rfl) ?_ | exact FrC_refl)⟩
  · rw [h3] at c7
    refine sg_47_0 ⟨rfl, rfl, rfl, rfl, trivial⟩ rfl ?_
    rcases hf with ⟨e, h⟩ | ⟨e, h⟩
    · subst e
      simp (disch := first | omega | (simp only [Prod.mk.injEq, ne_eq, not_and]; omega)) only [↓reduceIte, c0, c7, c8, c9, c10, c11, c12, c13, s0, s1, w0, t0, t1, cI_lt, cI_nat, cI_inj, cI_add, dk_up_eq, dk_up_k, dk_up_f, if_pos, if_neg, Nat.reduceEqDiff]
      exact dk_ex_some
    · subst e
      simp (disch := first | omega | (simp only [Prod.mk.injEq, ne_eq, not_and]; omega)) only [↓reduceIte, c0, c7, c8, c9, c10, c11, c12, c13, s0, s1, w0, t0, t1, cI_lt, cI_nat, cI_inj, cI_add, dk_up_eq, dk_up_k, dk_up_f, if_pos, if_neg, Nat.reduceEqDiff]
      exact dk_ex_some
  · exact PC_pr hC (by omega) (fun _ => by omega) (fun h => by omega) (fun a g h => by
      have n7 : ¬ (a = (2, p, 0) ∧ g = 7) := fun e => h ⟨e.1, by omega⟩
      have n9 : ¬ (a = (2, p, 0) ∧ g = 9) := fun e => h ⟨e.1, by omega⟩
      have n10 : ¬ (a = (2, p, 0) ∧ g = 10) := fun e => h ⟨e.1, by omega⟩
      simp only [dk_up, n7, n9, n10, if_false]) dk_up_eq (fun _ => by simp [dk_up, c8]) (fun _ => by simp [dk_up, c9, c10])
theorem cl_47_3c (hp : p < 16) (hC : PC N V E W T m) (hB : BD N E W T) (h3 : N 3 p = 3) (hf : (f = p ∧ N 11 p < p) ∨ (f = N 11 p ∧ p < N 11 p)) (hr : (f = p ∨ N 5 f = N 12 p) → N 4 f ≠ 1 ∧ N 4 f ≠ 2) : ∃ m', dk_Ev L (47, 0, [(0, vR (0, 0, 0)), (1, vR (2, p, 0))], [], (m, l, .inl (), k, q)) ((m', l, .inl (), k, q), .inl none) ∧ PC (nQ N p 4 (N 8 p) (N 9 p) (N 10 p)) V E W T m' ∧ FrC m m' := by
  have hP := hC.1 p hp
  have hbp := hB.1 p hp
  have c0 : m (2, p, 0) 0 = cI p := hP.1
  have c7 : m (2, p, 0) 7 = cI (N 3 p) := hP.2.2.2.2.1
  have s0 : m (3, p, 0) 0 = cI (N 4 p) := hP.2.2.2.2.2.1
  have s1 : m (3, p, 0) 1 = cI (N 5 p) := hP.2.2.2.2.2.2.1
  have hw : N 11 p < 16 ∧ N 12 p ≤ 600 ∧ N 13 p < 4 ∧ N 11 p ≠ p := hbp.2.2.2.2.2.2.2.2.2.2 (by omega)
  obtain ⟨c11, c12, c13⟩ : m (2, p, 0) 11 = cI (N 11 p) ∧ m (2, p, 0) 12 = cI (N 12 p) ∧ m (2, p, 0) 13 = cI (N 13 p) := hP.2.2.2.2.2.2.2.2.2.2.2.1 (by omega)
  have c8 : m (2, p, 0) 8 = cI (N 8 p) := hP.2.2.2.2.2.2.2.2.2.1 (by omega)
  have hQ := hC.1 (N 11 p) hw.1
  have w0 : m (2, N 11 p, 0) 0 = cI (N 11 p) := hQ.1
  have t0 : m (3, N 11 p, 0) 0 = cI (N 4 (N 11 p)) := hQ.2.2.2.2.2.1
  have t1 : m (3, N 11 p, 0) 1 = cI (N 5 (N 11 p)) := hQ.2.2.2.2.2.2.1
  have bw : N 4 (N 11 p) ≤ 3 ∧ N 5 (N 11 p) ≤ 600 := by have := hB.1 (N 11 p) hw.1; exact ⟨this.2.2.2.2.1, this.2.2.2.2.2.1⟩
  have bp : N 4 p ≤ 3 ∧ N 5 p ≤ 600 := ⟨hbp.2.2.2.2.1, hbp.2.2.2.2.2.1⟩
  obtain ⟨c9, c10⟩ : m (2, p, 0) 9 = cI (N 9 p) ∧ m (2, p, 0) 10 = cI (N 10 p) := hP.2.2.2.2.2.2.2.2.2.2.1 (by omega)
  refine ⟨dk_up m (2, p, 0) 7 (cI 4), ?_, ?_, by repeat (first | refine FrC_up (Nat.le_of_ble_eq_true rfl) ?_ | exact FrC_refl)⟩
  · rw [h3] at c7
    refine sg_47_0 ⟨rfl, rfl, rfl, rfl, trivial⟩ rfl ?_
    rcases hf with ⟨e, h⟩ | ⟨e, h⟩
    · subst e
      have hr := hr (Or.inl rfl)
      simp (disch := first | omega | (simp only [Prod.mk.injEq, ne_eq, not_and]; omega)) only [↓reduceIte, c0, c7, c8, c9, c10, c11, c12, c13, s0, s1, w0, t0, t1, cI_lt, cI_nat, cI_inj, cI_add, dk_up_eq, dk_up_k, dk_up_f, if_pos, if_neg, Nat.reduceEqDiff]
      exact dk_ex_some
    · subst e
      by_cases hv : N 5 (N 11 p) = N 12 p
      · have hr := hr (Or.inr hv)
        simp (disch := first | omega | (simp only [Prod.mk.injEq, ne_eq, not_and]; omega)) only [↓reduceIte, c0, c7, c8, c9, c10, c11, c12, c13, s0, s1, w0, t0, t1, cI_lt, cI_nat, cI_inj, cI_add, dk_up_eq, dk_up_k, dk_up_f, if_pos, if_neg, Nat.reduceEqDiff]
        exact dk_ex_some
      · simp (disch := first | omega | (simp only [Prod.mk.injEq, ne_eq, not_and]; omega)) only [↓reduceIte, c0, c7, c8, c9, c10, c11, c12, c13, s0, s1, w0, t0, t1, cI_lt, cI_nat, cI_inj, cI_add, dk_up_eq, dk_up_k, dk_up_f, if_pos, if_neg, Nat.reduceEqDiff]
        exact dk_ex_some
  · exact PC_pr hC (by omega) (fun _ => by omega) (fun h => by omega) (fun a g h => by
      have n7 : ¬ (a = (2, p, 0) ∧ g = 7) := fun e => h ⟨e.1, by omega⟩
      have n9 : ¬ (a = (2, p, 0) ∧ g = 9) := fun e => h ⟨e.1, by omega⟩
      have n10 : ¬ (a = (2, p, 0) ∧ g = 10) := fun e => h ⟨e.1, by omega⟩
      simp only [dk_up, n7, n9, n10, if_false]) dk_up_eq (fun _ => by simp [dk_up, c8]) (fun _ => by simp [dk_up, c9, c10])
theorem cl_47_4 (hp : p < 16) (hC : PC N V E W T m) (hB : BD N E W T) (h3 : N 3 p = 4) (hf : (f = p ∧ p < N 11 p) ∨ (f = N 11 p ∧ N 11 p < p)) : ∃ m', dk_Ev L (47, 0, [(0, vR (0, 0, 0)), (1, vR (2, p, 0))], [], (m, l, .inl (), k, q)) ((m', l, .inl (), k, q), .inl none) ∧ PC (nU (nU (nU (nU N 4 f 1) 6 f 0) 9 p (N 9 p + 1)) 3 p 1) V E W T m' ∧ FrC m m' := by
  have hP := hC.1 p hp
  have hbp := hB.1 p hp
  have c0 : m (2, p, 0) 0 = cI p := hP.1
  have c7 : m (2, p, 0) 7 = cI (N 3 p) := hP.2.2.2.2.1
  have s0 : m (3, p, 0) 0 = cI (N 4 p) := hP.2.2.2.2.2.1
  have s1 : m (3, p, 0) 1 = cI (N 5 p) := hP.2.2.2.2.2.2.1
  have hw : N 11 p < 16 ∧ N 12 p ≤ 600 ∧ N 13 p < 4 ∧ N 11 p ≠ p := hbp.2.2.2.2.2.2.2.2.2.2 (by omega)
  obtain ⟨c11, c12, c13⟩ : m (2, p, 0) 11 = cI (N 11 p) ∧ m (2, p, 0) 12 = cI (N 12 p) ∧ m (2, p, 0) 13 = cI (N 13 p) := hP.2.2.2.2.2.2.2.2.2.2.2.1 (by omega)
  have c8 : m (2, p, 0) 8 = cI (N 8 p) := hP.2.2.2.2.2.2.2.2.2.1 (by omega)
  have hQ := hC.1 (N 11 p) hw.1
  have w0 : m (2, N 11 p, 0) 0 = cI (N 11 p) := hQ.1
  have t0 : m (3, N 11 p, 0) 0 = cI (N 4 (N 11 p)) := hQ.2.2.2.2.2.1
  have t1 : m (3, N 11 p, 0) 1 = cI (N 5 (N 11 p)) := hQ.2.2.2.2.2.2.1
  have bw : N 4 (N 11 p) ≤ 3 ∧ N 5 (N 11 p) ≤ 600 := by have := hB.1 (N 11 p) hw.1; exact ⟨this.2.2.2.2.1, this.2.2.2.2.2.1⟩
  have bp : N 4 p ≤ 3 ∧ N 5 p ≤ 600 := ⟨hbp.2.2.2.2.1, hbp.2.2.2.2.2.1⟩
  obtain ⟨c9, c10⟩ : m (2, p, 0) 9 = cI (N 9 p) ∧ m (2, p, 0) 10 = cI (N 10 p) := hP.2.2.2.2.2.2.2.2.2.2.1 (by omega)
  refine ⟨dk_up (dk_up (dk_up (dk_up m (3, f, 0) 0 (cI 1)) (3, f, 0) 2 (cJ 0)) (2, p, 0) 9 (cI (N 9 p + 1))) (2, p, 0) 7 (cI 1), ?_, ?_, by repeat (first | refine FrC_up (Nat.le_of_ble_eq_true rfl) ?_ | exact FrC_refl)⟩
  · rw [h3] at c7
    refine sg_47_0 ⟨rfl, rfl, rfl, rfl, trivial⟩ rfl ?_
    rcases hf with ⟨e, h⟩ | ⟨e, h⟩
    · subst e
      simp (disch := first | omega | (simp only [Prod.mk.injEq, ne_eq, not_and]; omega)) only [↓reduceIte, c0, c7, c8, c9, c10, c11, c12, c13, s0, s1, w0, t0, t1, cI_lt, cI_nat, cI_inj, cI_add, dk_up_eq, dk_up_k, dk_up_f, if_pos, if_neg, Nat.reduceEqDiff]
      exact dk_ex_some
    · subst e
      simp (disch := first | omega | (simp only [Prod.mk.injEq, ne_eq, not_and]; omega)) only [↓reduceIte, c0, c7, c8, c9, c10, c11, c12, c13, s0, s1, w0, t0, t1, cI_lt, cI_nat, cI_inj, cI_add, dk_up_eq, dk_up_k, dk_up_f, if_pos, if_neg, Nat.reduceEqDiff]
      exact dk_ex_some
  · have h1 := PC_mk (f := f) (x4 := 1) (x6 := 0) hC (fun h => by omega)
    have e8 : nU (nU N 4 f 1) 6 f 0 8 p = N 8 p := rfl
    have e10 : nU (nU (nU N 4 f 1) 6 f 0) 9 p (N 9 p + 1) 10 p = N 10 p := rfl
    have h2 := PC_pr (p := p) (x3 := 1) (x8 := N 8 p) (x9 := N 9 p + 1) (x10 := N 10 p) (m' := dk_up (dk_up (dk_up (dk_up m (3, f, 0) 0 (cI 1)) (3, f, 0) 2 (cJ 0)) (2, p, 0) 9 (cI (N 9 p + 1))) (2, p, 0) 7 (cI 1)) h1 (by simp [nU, h3]) (fun _ => by simp [nU, h3]) (fun h => by omega) (fun a g h => by
      have n7 : ¬ (a = (2, p, 0) ∧ g = 7) := fun e => h ⟨e.1, by omega⟩
      have n9 : ¬ (a = (2, p, 0) ∧ g = 9) := fun e => h ⟨e.1, by omega⟩
      rw [dk_up, if_neg n7, dk_up, if_neg n9]) dk_up_eq (fun _ => by simp [dk_up, c8]) (fun _ => by simp [dk_up, c10])
    rw [nQ, ← e8, nU_self, ← e10, nU_self] at h2
    exact h2
theorem cl_47_6 (hp : p < 16) (hC : PC N V E W T m) (hB : BD N E W T) (h3 : N 3 p = 6) : ∃ m', dk_Ev L (47, 0, [(0, vR (0, 0, 0)), (1, vR (2, p, 0))], [], (m, l, .inl (), k, q)) ((m', l, .inl (), k, q), .inl none) ∧ PC (nU (nU (nU N 4 p 3) 6 p 0) 3 p 8) V E W T m' ∧ FrC m m' := by
  have hP := hC.1 p hp
  have hbp := hB.1 p hp
  have c0 : m (2, p, 0) 0 = cI p := hP.1
  have c7 : m (2, p, 0) 7 = cI (N 3 p) := hP.2.2.2.2.1
  have s0 : m (3, p, 0) 0 = cI (N 4 p) := hP.2.2.2.2.2.1
  have s1 : m (3, p, 0) 1 = cI (N 5 p) := hP.2.2.2.2.2.2.1
  have hw : N 11 p < 16 ∧ N 12 p ≤ 600 ∧ N 13 p < 4 ∧ N 11 p ≠ p := hbp.2.2.2.2.2.2.2.2.2.2 (by omega)
  obtain ⟨c11, c12, c13⟩ : m (2, p, 0) 11 = cI (N 11 p) ∧ m (2, p, 0) 12 = cI (N 12 p) ∧ m (2, p, 0) 13 = cI (N 13 p) := hP.2.2.2.2.2.2.2.2.2.2.2.1 (by omega)
  have c8 : m (2, p, 0) 8 = cI (N 8 p) := hP.2.2.2.2.2.2.2.2.2.1 (by omega)
  have hQ := hC.1 (N 11 p) hw.1
  have w0 : m (2, N 11 p, 0) 0 = cI (N 11 p) := hQ.1
  have t0 : m (3, N 11 p, 0) 0 = cI (N 4 (N 11 p)) := hQ.2.2.2.2.2.1
  have t1 : m (3, N 11 p, 0) 1 = cI (N 5 (N 11 p)) := hQ.2.2.2.2.2.2.1
  have bw : N 4 (N 11 p) ≤ 3 ∧ N 5 (N 11 p) ≤ 600 := by have := hB.1 (N 11 p) hw.1; exact ⟨this.2.2.2.2.1, this.2.2.2.2.2.1⟩
  have bp : N 4 p ≤ 3 ∧ N 5 p ≤ 600 := ⟨hbp.2.2.2.2.1, hbp.2.2.2.2.2.1⟩
  refine ⟨dk_up (dk_up (dk_up m (3, p, 0) 0 (cI 3)) (3, p, 0) 2 (cJ 0)) (2, p, 0) 7 (cI 8), ?_, ?_, by repeat (first | refine FrC_up (Nat.le_of_ble_eq_true rfl) ?_ | exact FrC_refl)⟩
  · rw [h3] at c7
    refine sg_47_0 ⟨rfl, rfl, rfl, rfl, trivial⟩ rfl ?_
    simp (disch := first | omega | (simp only [Prod.mk.injEq, ne_eq, not_and]; omega)) only [↓reduceIte, c0, c7, c8, c11, c12, c13, s0, s1, w0, t0, t1, cI_lt, cI_nat, cI_inj, cI_add, dk_up_eq, dk_up_k, dk_up_f, if_pos, if_neg, Nat.reduceEqDiff]
    exact dk_ex_some
  · have h1 := PC_mk (f := p) (x4 := 3) (x6 := 0) hC (fun _ => hP.2.2.2.2.2.2.2.2.2.2.2.2 (Or.inr h3))
    have e8 : nU (nU N 4 p 3) 6 p 0 8 p = N 8 p := rfl
    have e9 : nU (nU N 4 p 3) 6 p 0 9 p = N 9 p := rfl
    have e10 : nU (nU N 4 p 3) 6 p 0 10 p = N 10 p := rfl
    have h2 := PC_pr (p := p) (x3 := 8) (x8 := N 8 p) (x9 := N 9 p) (x10 := N 10 p) (m' := dk_up (dk_up (dk_up m (3, p, 0) 0 (cI 3)) (3, p, 0) 2 (cJ 0)) (2, p, 0) 7 (cI 8)) h1 (by simp [nU, h3]) (fun h => by omega) (fun h => by omega) (fun a g h => if_neg (fun e => h ⟨e.1, Or.inl e.2⟩)) dk_up_eq (fun h => by omega) (fun h => by omega)
    rw [nQ, ← e8, nU_self, ← e9, nU_self, ← e10, nU_self] at h2
    exact h2
theorem cl_47_no (hp : p < 16) (hC : PC N V E W T m) (h3 : N 3 p = 7 ∨ N 3 p = 8 ∨ N 3 p = 9) : dk_Ev L (47, 0, [(0, vR (0, 0, 0)), (1, vR (2, p, 0))], [], (m, l, .inl (), k, q)) ((m, l, .inl (), k, q), .inl none) := by
  have c7 : m (2, p, 0) 7 = cI (N 3 p) := (hC.1 p hp).2.2.2.2.1
  refine sg_47_0 ⟨rfl, rfl, rfl, rfl, trivial⟩ rfl ?_
  rcases h3 with h | h | h <;> rw [h] at c7 <;> simp (disch := omega) only [↓reduceIte, c7, cI_inj, Nat.reduceEqDiff] <;> exact dk_ex_some
end
