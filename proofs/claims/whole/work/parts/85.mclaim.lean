/-! the reference claims, gives back, tells, ends -/
section
variable {L : Nat} {N : dkNN} {V : dkVV} {E : dkEE} {W : dkWW} {T : Nat} {m : dkM} {l : Int64} {k q : Nat} {p f : Nat}
theorem md_92_2a (hp : p < 16) (hM : PM N V E W T m) (hB : BD N E W T) (h3 : N 3 p = 2) (hf : (f = p ∧ p < N 11 p) ∨ (f = N 11 p ∧ N 11 p < p)) (hr : f = p ∨ N 5 f = N 12 p) (h4 : N 4 f = 1) : ∃ m', dk_Ev L (92, 0, [(0, vR (12, 0, 0)), (1, vI (cI p))], [], (m, l, .inl (), k, q)) ((m', l, .inl (), k, q), .inl none) ∧ PM (nU (nU (nU N 4 f 2) 6 f (p + 1)) 3 p 3) V E W T m' ∧ FrS m m' := by
  have hP := hM.1 p hp
  have hbp := hB.1 p hp
  have c7 : m (13, 6, 0) p = cI (N 3 p) := hP.2.2.2.1
  have s0 : m (13, 3, 0) p = cI (N 4 p) := hP.2.2.2.2.1
  have s1 : m (13, 4, 0) p = cI (N 5 p) := hP.2.2.2.2.2.1
  have hw : N 11 p < 16 ∧ N 12 p ≤ 600 ∧ N 13 p < 4 ∧ N 11 p ≠ p := hbp.2.2.2.2.2.2.2.2.2.2 (by omega)
  obtain ⟨c11, c12, c13⟩ : m (13, 20, 0) p = cI (N 11 p) ∧ m (13, 21, 0) p = cI (N 12 p) ∧ m (13, 22, 0) p = cI (N 13 p) := hP.2.2.2.2.2.2.2.2.2.2.1 (by omega)
  have c8 : m (13, 17, 0) p = cI (N 8 p) := hP.2.2.2.2.2.2.2.2.1 (by omega)
  have hQ := hM.1 (N 11 p) hw.1
  have t0 : m (13, 3, 0) (N 11 p) = cI (N 4 (N 11 p)) := hQ.2.2.2.2.1
  have t1 : m (13, 4, 0) (N 11 p) = cI (N 5 (N 11 p)) := hQ.2.2.2.2.2.1
  have bw : N 4 (N 11 p) ≤ 3 ∧ N 5 (N 11 p) ≤ 600 := by have := hB.1 (N 11 p) hw.1; exact ⟨this.2.2.2.2.1, this.2.2.2.2.2.1⟩
  have bp : N 4 p ≤ 3 ∧ N 5 p ≤ 600 := ⟨hbp.2.2.2.2.1, hbp.2.2.2.2.2.1⟩
  obtain ⟨c9, c10⟩ : m (13, 18, 0) p = cI (N 9 p) ∧ m (16, 19, 0) p = cI (N 10 p) := hP.2.2.2.2.2.2.2.2.2.1 (by omega)
  refine ⟨dk_up (dk_up (dk_up m (13, 3, 0) f (cI 2)) (13, 5, 0) f (cI p)) (13, 6, 0) p (cI 3), ?_, ?_, by repeat (first | refine FrS_up ⟨Nat.le_of_ble_eq_true rfl, Nat.ne_of_beq_eq_false rfl⟩ rfl ?_ | exact FrS_refl)⟩
  · rw [h3] at c7
    refine sg_92_0 ⟨rfl, rfl, rfl, rfl, trivial⟩ rfl ?_
    rcases hf with ⟨e, h⟩ | ⟨e, h⟩
    · subst e
      simp (disch := omega) only [↓reduceIte, c7, c8, c9, c10, c11, c12, c13, s0, s1, t0, t1, cI_lt, cI_nat, cI_inj, cI_add, dk_up_eq, dk_up_k, dk_up_i, dk_up_f, le_F, Nat.not_lt_zero, or_self, if_pos, if_neg, Nat.reduceEqDiff]
      exact dk_ex_some
    · subst e
      simp (disch := omega) only [↓reduceIte, c7, c8, c9, c10, c11, c12, c13, s0, s1, t0, t1, cI_lt, cI_nat, cI_inj, cI_add, dk_up_eq, dk_up_k, dk_up_i, dk_up_f, le_F, Nat.not_lt_zero, or_self, if_pos, if_neg, Nat.reduceEqDiff]
      exact dk_ex_some
  · have h1 := PM_mk (f := f) (x4 := 2) (x6 := p + 1) hM (fun h => by omega)
    have h2 := PM_pr (p := p) (x3 := 3) (x8 := N 8 p) (x9 := N 9 p) (x10 := N 10 p) (m' := dk_up (dk_up (dk_up m (13, 3, 0) f (cI 2)) (13, 5, 0) f (cI p)) (13, 6, 0) p (cI 3)) h1 (by simp [nU, h3]) (fun _ => by simp [nU, h3]) (by decide) (fun a g h => if_neg (fun e => h ⟨e.2, Or.inl e.1⟩)) dk_up_eq (fun _ => by simp [dk_up, c8]) (fun _ => by simp [dk_up, c9, c10])
    rw [nQ_keep] at h2
    · exact h2
    · rfl
    · rfl
    · rfl
theorem md_92_2b (hp : p < 16) (hM : PM N V E W T m) (hB : BD N E W T) (h3 : N 3 p = 2) (hf : (f = p ∧ p < N 11 p) ∨ (f = N 11 p ∧ N 11 p < p)) (hr : f = p ∨ N 5 f = N 12 p) (h4 : N 4 f = 2) : ∃ m', dk_Ev L (92, 0, [(0, vR (12, 0, 0)), (1, vI (cI p))], [], (m, l, .inl (), k, q)) ((m', l, .inl (), k, q), .inl none) ∧ PM (nQ N p 1 (N 8 p) (N 9 p + 1) 0) V E W T m' ∧ FrS m m' := by
  have hP := hM.1 p hp
  have hbp := hB.1 p hp
  have c7 : m (13, 6, 0) p = cI (N 3 p) := hP.2.2.2.1
  have s0 : m (13, 3, 0) p = cI (N 4 p) := hP.2.2.2.2.1
  have s1 : m (13, 4, 0) p = cI (N 5 p) := hP.2.2.2.2.2.1
  have hw : N 11 p < 16 ∧ N 12 p ≤ 600 ∧ N 13 p < 4 ∧ N 11 p ≠ p := hbp.2.2.2.2.2.2.2.2.2.2 (by omega)
  obtain ⟨c11, c12, c13⟩ : m (13, 20, 0) p = cI (N 11 p) ∧ m (13, 21, 0) p = cI (N 12 p) ∧ m (13, 22, 0) p = cI (N 13 p) := hP.2.2.2.2.2.2.2.2.2.2.1 (by omega)
  have c8 : m (13, 17, 0) p = cI (N 8 p) := hP.2.2.2.2.2.2.2.2.1 (by omega)
  have hQ := hM.1 (N 11 p) hw.1
  have t0 : m (13, 3, 0) (N 11 p) = cI (N 4 (N 11 p)) := hQ.2.2.2.2.1
  have t1 : m (13, 4, 0) (N 11 p) = cI (N 5 (N 11 p)) := hQ.2.2.2.2.2.1
  have bw : N 4 (N 11 p) ≤ 3 ∧ N 5 (N 11 p) ≤ 600 := by have := hB.1 (N 11 p) hw.1; exact ⟨this.2.2.2.2.1, this.2.2.2.2.2.1⟩
  have bp : N 4 p ≤ 3 ∧ N 5 p ≤ 600 := ⟨hbp.2.2.2.2.1, hbp.2.2.2.2.2.1⟩
  obtain ⟨c9, c10⟩ : m (13, 18, 0) p = cI (N 9 p) ∧ m (16, 19, 0) p = cI (N 10 p) := hP.2.2.2.2.2.2.2.2.2.1 (by omega)
  refine ⟨dk_up (dk_up (dk_up m (16, 19, 0) p (cI 0)) (13, 6, 0) p (cI 1)) (13, 18, 0) p (cI (N 9 p + 1)), ?_, ?_, by repeat (first | refine FrS_up ⟨Nat.le_of_ble_eq_true rfl, Nat.ne_of_beq_eq_false rfl⟩ rfl ?_ | exact FrS_refl)⟩
  · rw [h3] at c7
    refine sg_92_0 ⟨rfl, rfl, rfl, rfl, trivial⟩ rfl ?_
    rcases hf with ⟨e, h⟩ | ⟨e, h⟩
    · subst e
      simp (disch := omega) only [↓reduceIte, c7, c8, c9, c10, c11, c12, c13, s0, s1, t0, t1, cI_lt, cI_nat, cI_inj, cI_add, dk_up_eq, dk_up_k, dk_up_i, dk_up_f, le_F, Nat.not_lt_zero, or_self, if_pos, if_neg, Nat.reduceEqDiff]
      exact dk_ex_some
    · subst e
      simp (disch := omega) only [↓reduceIte, c7, c8, c9, c10, c11, c12, c13, s0, s1, t0, t1, cI_lt, cI_nat, cI_inj, cI_add, dk_up_eq, dk_up_k, dk_up_i, dk_up_f, le_F, Nat.not_lt_zero, or_self, if_pos, if_neg, Nat.reduceEqDiff]
      exact dk_ex_some
  · exact PM_pr hM (by omega) (fun _ => by omega) (by decide) (fun a g h => by
      have n6 : ¬ (a = (13, 6, 0) ∧ g = p) := fun e => h ⟨e.2, by simp [e.1]⟩
      have n18 : ¬ (a = (13, 18, 0) ∧ g = p) := fun e => h ⟨e.2, by simp [e.1]⟩
      have n19 : ¬ (a = (16, 19, 0) ∧ g = p) := fun e => h ⟨e.2, by simp [e.1]⟩
      simp only [dk_up, n6, n18, n19, if_false]) (by simp [dk_up]) (fun _ => by simp [dk_up, c8]) (fun _ => by simp [dk_up, c9, c10])
theorem md_92_2c (hp : p < 16) (hM : PM N V E W T m) (hB : BD N E W T) (h3 : N 3 p = 2) (hf : (f = p ∧ p < N 11 p) ∨ (f = N 11 p ∧ N 11 p < p)) (hr : (f = p ∨ N 5 f = N 12 p) → N 4 f ≠ 1 ∧ N 4 f ≠ 2) : ∃ m', dk_Ev L (92, 0, [(0, vR (12, 0, 0)), (1, vI (cI p))], [], (m, l, .inl (), k, q)) ((m', l, .inl (), k, q), .inl none) ∧ PM (nQ N p 1 (N 8 p) (N 9 p + 1) (N 10 p)) V E W T m' ∧ FrS m m' := by
  have hP := hM.1 p hp
  have hbp := hB.1 p hp
  have c7 : m (13, 6, 0) p = cI (N 3 p) := hP.2.2.2.1
  have s0 : m (13, 3, 0) p = cI (N 4 p) := hP.2.2.2.2.1
  have s1 : m (13, 4, 0) p = cI (N 5 p) := hP.2.2.2.2.2.1
  have hw : N 11 p < 16 ∧ N 12 p ≤ 600 ∧ N 13 p < 4 ∧ N 11 p ≠ p := hbp.2.2.2.2.2.2.2.2.2.2 (by omega)
  obtain ⟨c11, c12, c13⟩ : m (13, 20, 0) p = cI (N 11 p) ∧ m (13, 21, 0) p = cI (N 12 p) ∧ m (13, 22, 0) p = cI (N 13 p) := hP.2.2.2.2.2.2.2.2.2.2.1 (by omega)
  have c8 : m (13, 17, 0) p = cI (N 8 p) := hP.2.2.2.2.2.2.2.2.1 (by omega)
  have hQ := hM.1 (N 11 p) hw.1
  have t0 : m (13, 3, 0) (N 11 p) = cI (N 4 (N 11 p)) := hQ.2.2.2.2.1
  have t1 : m (13, 4, 0) (N 11 p) = cI (N 5 (N 11 p)) := hQ.2.2.2.2.2.1
  have bw : N 4 (N 11 p) ≤ 3 ∧ N 5 (N 11 p) ≤ 600 := by have := hB.1 (N 11 p) hw.1; exact ⟨this.2.2.2.2.1, this.2.2.2.2.2.1⟩
  have bp : N 4 p ≤ 3 ∧ N 5 p ≤ 600 := ⟨hbp.2.2.2.2.1, hbp.2.2.2.2.2.1⟩
  obtain ⟨c9, c10⟩ : m (13, 18, 0) p = cI (N 9 p) ∧ m (16, 19, 0) p = cI (N 10 p) := hP.2.2.2.2.2.2.2.2.2.1 (by omega)
  refine ⟨dk_up (dk_up m (13, 6, 0) p (cI 1)) (13, 18, 0) p (cI (N 9 p + 1)), ?_, ?_, by repeat (first | refine FrS_up ⟨Nat.le_of_ble_eq_true rfl, Nat.ne_of_beq_eq_false rfl⟩ rfl ?_ | exact FrS_refl)⟩
  · rw [h3] at c7
    refine sg_92_0 ⟨rfl, rfl, rfl, rfl, trivial⟩ rfl ?_
    rcases hf with ⟨e, h⟩ | ⟨e, h⟩
    · subst e
      have hr := hr (Or.inl rfl)
      simp (disch := omega) only [↓reduceIte, c7, c8, c9, c10, c11, c12, c13, s0, s1, t0, t1, cI_lt, cI_nat, cI_inj, cI_add, dk_up_eq, dk_up_k, dk_up_i, dk_up_f, le_F, Nat.not_lt_zero, or_self, if_pos, if_neg, Nat.reduceEqDiff]
      exact dk_ex_some
    · subst e
      by_cases hv : N 5 (N 11 p) = N 12 p
      · have hr := hr (Or.inr hv)
        simp (disch := omega) only [↓reduceIte, c7, c8, c9, c10, c11, c12, c13, s0, s1, t0, t1, cI_lt, cI_nat, cI_inj, cI_add, dk_up_eq, dk_up_k, dk_up_i, dk_up_f, le_F, Nat.not_lt_zero, or_self, if_pos, if_neg, Nat.reduceEqDiff]
        exact dk_ex_some
      · simp (disch := omega) only [↓reduceIte, c7, c8, c9, c10, c11, c12, c13, s0, s1, t0, t1, cI_lt, cI_nat, cI_inj, cI_add, dk_up_eq, dk_up_k, dk_up_i, dk_up_f, le_F, Nat.not_lt_zero, or_self, if_pos, if_neg, Nat.reduceEqDiff]
        exact dk_ex_some
  · exact PM_pr hM (by omega) (fun _ => by omega) (by decide) (fun a g h => by
      have n6 : ¬ (a = (13, 6, 0) ∧ g = p) := fun e => h ⟨e.2, by simp [e.1]⟩
      have n18 : ¬ (a = (13, 18, 0) ∧ g = p) := fun e => h ⟨e.2, by simp [e.1]⟩
      have n19 : ¬ (a = (16, 19, 0) ∧ g = p) := fun e => h ⟨e.2, by simp [e.1]⟩
      simp only [dk_up, n6, n18, n19, if_false]) (by simp [dk_up]) (fun _ => by simp [dk_up, c8]) (fun _ => by simp [dk_up, c9, c10])
theorem md_92_3a (hp : p < 16) (hM : PM N V E W T m) (hB : BD N E W T) (h3 : N 3 p = 3) (hf : (f = p ∧ N 11 p < p) ∨ (f = N 11 p ∧ p < N 11 p)) (hr : f = p ∨ N 5 f = N 12 p) (h4 : N 4 f = 1) : ∃ m', dk_Ev L (92, 0, [(0, vR (12, 0, 0)), (1, vI (cI p))], [], (m, l, .inl (), k, q)) ((m', l, .inl (), k, q), .inl none) ∧ PM (nU (nU (nU N 4 f 2) 6 f (p + 1)) 3 p 5) V E W T m' ∧ FrS m m' := by
  have hP := hM.1 p hp
  have hbp := hB.1 p hp
  have c7 : m (13, 6, 0) p = cI (N 3 p) := hP.2.2.2.1
  have s0 : m (13, 3, 0) p = cI (N 4 p) := hP.2.2.2.2.1
  have s1 : m (13, 4, 0) p = cI (N 5 p) := hP.2.2.2.2.2.1
  have hw : N 11 p < 16 ∧ N 12 p ≤ 600 ∧ N 13 p < 4 ∧ N 11 p ≠ p := hbp.2.2.2.2.2.2.2.2.2.2 (by omega)
  obtain ⟨c11, c12, c13⟩ : m (13, 20, 0) p = cI (N 11 p) ∧ m (13, 21, 0) p = cI (N 12 p) ∧ m (13, 22, 0) p = cI (N 13 p) := hP.2.2.2.2.2.2.2.2.2.2.1 (by omega)
  have c8 : m (13, 17, 0) p = cI (N 8 p) := hP.2.2.2.2.2.2.2.2.1 (by omega)
  have hQ := hM.1 (N 11 p) hw.1
  have t0 : m (13, 3, 0) (N 11 p) = cI (N 4 (N 11 p)) := hQ.2.2.2.2.1
  have t1 : m (13, 4, 0) (N 11 p) = cI (N 5 (N 11 p)) := hQ.2.2.2.2.2.1
  have bw : N 4 (N 11 p) ≤ 3 ∧ N 5 (N 11 p) ≤ 600 := by have := hB.1 (N 11 p) hw.1; exact ⟨this.2.2.2.2.1, this.2.2.2.2.2.1⟩
  have bp : N 4 p ≤ 3 ∧ N 5 p ≤ 600 := ⟨hbp.2.2.2.2.1, hbp.2.2.2.2.2.1⟩
  obtain ⟨c9, c10⟩ : m (13, 18, 0) p = cI (N 9 p) ∧ m (16, 19, 0) p = cI (N 10 p) := hP.2.2.2.2.2.2.2.2.2.1 (by omega)
  refine ⟨dk_up (dk_up (dk_up m (13, 3, 0) f (cI 2)) (13, 5, 0) f (cI p)) (13, 6, 0) p (cI 5), ?_, ?_, by repeat (first | refine FrS_up ⟨Nat.le_of_ble_eq_true rfl, Nat.ne_of_beq_eq_false rfl⟩ rfl ?_ | exact FrS_refl)⟩
  · rw [h3] at c7
    refine sg_92_0 ⟨rfl, rfl, rfl, rfl, trivial⟩ rfl ?_
    rcases hf with ⟨e, h⟩ | ⟨e, h⟩
    · subst e
      simp (disch := omega) only [↓reduceIte, c7, c8, c9, c10, c11, c12, c13, s0, s1, t0, t1, cI_lt, cI_nat, cI_inj, cI_add, dk_up_eq, dk_up_k, dk_up_i, dk_up_f, le_F, Nat.not_lt_zero, or_self, if_pos, if_neg, Nat.reduceEqDiff]
      exact dk_ex_some
    · subst e
      simp (disch := omega) only [↓reduceIte, c7, c8, c9, c10, c11, c12, c13, s0, s1, t0, t1, cI_lt, cI_nat, cI_inj, cI_add, dk_up_eq, dk_up_k, dk_up_i, dk_up_f, le_F, Nat.not_lt_zero, or_self, if_pos, if_neg, Nat.reduceEqDiff]
      exact dk_ex_some
  · have h1 := PM_mk (f := f) (x4 := 2) (x6 := p + 1) hM (fun h => by omega)
    have h2 := PM_pr (p := p) (x3 := 5) (x8 := N 8 p) (x9 := N 9 p) (x10 := N 10 p) (m' := dk_up (dk_up (dk_up m (13, 3, 0) f (cI 2)) (13, 5, 0) f (cI p)) (13, 6, 0) p (cI 5)) h1 (by simp [nU, h3]) (fun _ => by simp [nU, h3]) (by decide) (fun a g h => if_neg (fun e => h ⟨e.2, Or.inl e.1⟩)) dk_up_eq (fun _ => by simp [dk_up, c8]) (fun _ => by simp [dk_up, c9, c10])
    rw [nQ_keep] at h2
    · exact h2
    · rfl
    · rfl
    · rfl
theorem md_92_3b (hp : p < 16) (hM : PM N V E W T m) (hB : BD N E W T) (h3 : N 3 p = 3) (hf : (f = p ∧ N 11 p < p) ∨ (f = N 11 p ∧ p < N 11 p)) (hr : f = p ∨ N 5 f = N 12 p) (h4 : N 4 f = 2) : ∃ m', dk_Ev L (92, 0, [(0, vR (12, 0, 0)), (1, vI (cI p))], [], (m, l, .inl (), k, q)) ((m', l, .inl (), k, q), .inl none) ∧ PM (nQ N p 4 (N 8 p) (N 9 p) 0) V E W T m' ∧ FrS m m' := by
  have hP := hM.1 p hp
  have hbp := hB.1 p hp
  have c7 : m (13, 6, 0) p = cI (N 3 p) := hP.2.2.2.1
  have s0 : m (13, 3, 0) p = cI (N 4 p) := hP.2.2.2.2.1
  have s1 : m (13, 4, 0) p = cI (N 5 p) := hP.2.2.2.2.2.1
  have hw : N 11 p < 16 ∧ N 12 p ≤ 600 ∧ N 13 p < 4 ∧ N 11 p ≠ p := hbp.2.2.2.2.2.2.2.2.2.2 (by omega)
  obtain ⟨c11, c12, c13⟩ : m (13, 20, 0) p = cI (N 11 p) ∧ m (13, 21, 0) p = cI (N 12 p) ∧ m (13, 22, 0) p = cI (N 13 p) := hP.2.2.2.2.2.2.2.2.2.2.1 (by omega)
  have c8 : m (13, 17, 0) p = cI (N 8 p) := hP.2.2.2.2.2.2.2.2.1 (by omega)
  have hQ := hM.1 (N 11 p) hw.1
  have t0 : m (13, 3, 0) (N 11 p) = cI (N 4 (N 11 p)) := hQ.2.2.2.2.1
  have t1 : m (13, 4, 0) (N 11 p) = cI (N 5 (N 11 p)) := hQ.2.2.2.2.2.1
  have bw : N 4 (N 11 p) ≤ 3 ∧ N 5 (N 11 p) ≤ 600 := by have := hB.1 (N 11 p) hw.1; exact ⟨this.2.2.2.2.1, this.2.2.2.2.2.1⟩
  have bp : N 4 p ≤ 3 ∧ N 5 p ≤ 600 := ⟨hbp.2.2.2.2.1, hbp.2.2.2.2.2.1⟩
  obtain ⟨c9, c10⟩ : m (13, 18, 0) p = cI (N 9 p) ∧ m (16, 19, 0) p = cI (N 10 p) := hP.2.2.2.2.2.2.2.2.2.1 (by omega)
  refine ⟨dk_up (dk_up m (16, 19, 0) p (cI 0)) (13, 6, 0) p (cI 4), ?_, ?_, by repeat (first | refine FrS_up ⟨Nat.le_of_ble_eq_true rfl, Nat.ne_of_beq_eq_false rfl⟩ rfl ?_ | exact FrS_refl)⟩
  · rw [h3] at c7
    refine sg_92_0 ⟨rfl, rfl, rfl, rfl, trivial⟩ rfl ?_
    rcases hf with ⟨e, h⟩ | ⟨e, h⟩
    · subst e
      simp (disch := omega) only [↓reduceIte, c7, c8, c9, c10, c11, c12, c13, s0, s1, t0, t1, cI_lt, cI_nat, cI_inj, cI_add, dk_up_eq, dk_up_k, dk_up_i, dk_up_f, le_F, Nat.not_lt_zero, or_self, if_pos, if_neg, Nat.reduceEqDiff]
      exact dk_ex_some
    · subst e
      simp (disch := omega) only [↓reduceIte, c7, c8, c9, c10, c11, c12, c13, s0, s1, t0, t1, cI_lt, cI_nat, cI_inj, cI_add, dk_up_eq, dk_up_k, dk_up_i, dk_up_f, le_F, Nat.not_lt_zero, or_self, if_pos, if_neg, Nat.reduceEqDiff]
      exact dk_ex_some
  · exact PM_pr hM (by omega) (fun _ => by omega) (by decide) (fun a g h => by
      have n6 : ¬ (a = (13, 6, 0) ∧ g = p) := fun e => h ⟨e.2, by simp [e.1]⟩
      have n18 : ¬ (a = (13, 18, 0) ∧ g = p) := fun e => h ⟨e.2, by simp [e.1]⟩
      have n19 : ¬ (a = (16, 19, 0) ∧ g = p) := fun e => h ⟨e.2, by simp [e.1]⟩
      simp only [dk_up, n6, n18, n19, if_false]) (by simp [dk_up]) (fun _ => by simp [dk_up, c8]) (fun _ => by simp [dk_up, c9, c10])
theorem md_92_3c (hp : p < 16) (hM : PM N V E W T m) (hB : BD N E W T) (h3 : N 3 p = 3) (hf : (f = p ∧ N 11 p < p) ∨ (f = N 11 p ∧ p < N 11 p)) (hr : (f = p ∨ N 5 f = N 12 p) → N 4 f ≠ 1 ∧ N 4 f ≠ 2) : ∃ m', dk_Ev L (92, 0, [(0, vR (12, 0, 0)), (1, vI (cI p))], [], (m, l, .inl (), k, q)) ((m', l, .inl (), k, q), .inl none) ∧ PM (nQ N p 4 (N 8 p) (N 9 p) (N 10 p)) V E W T m' ∧ FrS m m' := by
  have hP := hM.1 p hp
  have hbp := hB.1 p hp
  have c7 : m (13, 6, 0) p = cI (N 3 p) := hP.2.2.2.1
  have s0 : m (13, 3, 0) p = cI (N 4 p) := hP.2.2.2.2.1
  have s1 : m (13, 4, 0) p = cI (N 5 p) := hP.2.2.2.2.2.1
  have hw : N 11 p < 16 ∧ N 12 p ≤ 600 ∧ N 13 p < 4 ∧ N 11 p ≠ p := hbp.2.2.2.2.2.2.2.2.2.2 (by omega)
  obtain ⟨c11, c12, c13⟩ : m (13, 20, 0) p = cI (N 11 p) ∧ m (13, 21, 0) p = cI (N 12 p) ∧ m (13, 22, 0) p = cI (N 13 p) := hP.2.2.2.2.2.2.2.2.2.2.1 (by omega)
  have c8 : m (13, 17, 0) p = cI (N 8 p) := hP.2.2.2.2.2.2.2.2.1 (by omega)
  have hQ := hM.1 (N 11 p) hw.1
  have t0 : m (13, 3, 0) (N 11 p) = cI (N 4 (N 11 p)) := hQ.2.2.2.2.1
  have t1 : m (13, 4, 0) (N 11 p) = cI (N 5 (N 11 p)) := hQ.2.2.2.2.2.1
  have bw : N 4 (N 11 p) ≤ 3 ∧ N 5 (N 11 p) ≤ 600 := by have := hB.1 (N 11 p) hw.1; exact ⟨this.2.2.2.2.1, this.2.2.2.2.2.1⟩
  have bp : N 4 p ≤ 3 ∧ N 5 p ≤ 600 := ⟨hbp.2.2.2.2.1, hbp.2.2.2.2.2.1⟩
  obtain ⟨c9, c10⟩ : m (13, 18, 0) p = cI (N 9 p) ∧ m (16, 19, 0) p = cI (N 10 p) := hP.2.2.2.2.2.2.2.2.2.1 (by omega)
  refine ⟨dk_up m (13, 6, 0) p (cI 4), ?_, ?_, by repeat (first | refine FrS_up ⟨Nat.le_of_ble_eq_true rfl, Nat.ne_of_beq_eq_false rfl⟩ rfl ?_ | exact FrS_refl)⟩
  · rw [h3] at c7
    refine sg_92_0 ⟨rfl, rfl, rfl, rfl, trivial⟩ rfl ?_
    rcases hf with ⟨e, h⟩ | ⟨e, h⟩
    · subst e
      have hr := hr (Or.inl rfl)
      simp (disch := omega) only [↓reduceIte, c7, c8, c9, c10, c11, c12, c13, s0, s1, t0, t1, cI_lt, cI_nat, cI_inj, cI_add, dk_up_eq, dk_up_k, dk_up_i, dk_up_f, le_F, Nat.not_lt_zero, or_self, if_pos, if_neg, Nat.reduceEqDiff]
      exact dk_ex_some
    · subst e
      by_cases hv : N 5 (N 11 p) = N 12 p
      · have hr := hr (Or.inr hv)
        simp (disch := omega) only [↓reduceIte, c7, c8, c9, c10, c11, c12, c13, s0, s1, t0, t1, cI_lt, cI_nat, cI_inj, cI_add, dk_up_eq, dk_up_k, dk_up_i, dk_up_f, le_F, Nat.not_lt_zero, or_self, if_pos, if_neg, Nat.reduceEqDiff]
        exact dk_ex_some
      · simp (disch := omega) only [↓reduceIte, c7, c8, c9, c10, c11, c12, c13, s0, s1, t0, t1, cI_lt, cI_nat, cI_inj, cI_add, dk_up_eq, dk_up_k, dk_up_i, dk_up_f, le_F, Nat.not_lt_zero, or_self, if_pos, if_neg, Nat.reduceEqDiff]
        exact dk_ex_some
  · exact PM_pr hM (by omega) (fun _ => by omega) (by decide) (fun a g h => by
      have n6 : ¬ (a = (13, 6, 0) ∧ g = p) := fun e => h ⟨e.2, by simp [e.1]⟩
      have n18 : ¬ (a = (13, 18, 0) ∧ g = p) := fun e => h ⟨e.2, by simp [e.1]⟩
      have n19 : ¬ (a = (16, 19, 0) ∧ g = p) := fun e => h ⟨e.2, by simp [e.1]⟩
      simp only [dk_up, n6, n18, n19, if_false]) (by simp [dk_up]) (fun _ => by simp [dk_up, c8]) (fun _ => by simp [dk_up, c9, c10])
theorem md_92_4 (hp : p < 16) (hM : PM N V E W T m) (hB : BD N E W T) (h3 : N 3 p = 4) (hf : (f = p ∧ p < N 11 p) ∨ (f = N 11 p ∧ N 11 p < p)) : ∃ m', dk_Ev L (92, 0, [(0, vR (12, 0, 0)), (1, vI (cI p))], [], (m, l, .inl (), k, q)) ((m', l, .inl (), k, q), .inl none) ∧ PM (nU (nU (nU (nU N 4 f 1) 6 f 0) 9 p (N 9 p + 1)) 3 p 1) V E W T m' ∧ FrS m m' := by
  have hP := hM.1 p hp
  have hbp := hB.1 p hp
  have c7 : m (13, 6, 0) p = cI (N 3 p) := hP.2.2.2.1
  have s0 : m (13, 3, 0) p = cI (N 4 p) := hP.2.2.2.2.1
  have s1 : m (13, 4, 0) p = cI (N 5 p) := hP.2.2.2.2.2.1
  have hw : N 11 p < 16 ∧ N 12 p ≤ 600 ∧ N 13 p < 4 ∧ N 11 p ≠ p := hbp.2.2.2.2.2.2.2.2.2.2 (by omega)
  obtain ⟨c11, c12, c13⟩ : m (13, 20, 0) p = cI (N 11 p) ∧ m (13, 21, 0) p = cI (N 12 p) ∧ m (13, 22, 0) p = cI (N 13 p) := hP.2.2.2.2.2.2.2.2.2.2.1 (by omega)
  have c8 : m (13, 17, 0) p = cI (N 8 p) := hP.2.2.2.2.2.2.2.2.1 (by omega)
  have hQ := hM.1 (N 11 p) hw.1
  have t0 : m (13, 3, 0) (N 11 p) = cI (N 4 (N 11 p)) := hQ.2.2.2.2.1
  have t1 : m (13, 4, 0) (N 11 p) = cI (N 5 (N 11 p)) := hQ.2.2.2.2.2.1
  have bw : N 4 (N 11 p) ≤ 3 ∧ N 5 (N 11 p) ≤ 600 := by have := hB.1 (N 11 p) hw.1; exact ⟨this.2.2.2.2.1, this.2.2.2.2.2.1⟩
  have bp : N 4 p ≤ 3 ∧ N 5 p ≤ 600 := ⟨hbp.2.2.2.2.1, hbp.2.2.2.2.2.1⟩
  obtain ⟨c9, c10⟩ : m (13, 18, 0) p = cI (N 9 p) ∧ m (16, 19, 0) p = cI (N 10 p) := hP.2.2.2.2.2.2.2.2.2.1 (by omega)
  refine ⟨dk_up (dk_up (dk_up (dk_up m (13, 3, 0) f (cI 1)) (13, 5, 0) f (cJ 0)) (13, 6, 0) p (cI 1)) (13, 18, 0) p (cI (N 9 p + 1)), ?_, ?_, by repeat (first | refine FrS_up ⟨Nat.le_of_ble_eq_true rfl, Nat.ne_of_beq_eq_false rfl⟩ rfl ?_ | exact FrS_refl)⟩
  · rw [h3] at c7
    refine sg_92_0 ⟨rfl, rfl, rfl, rfl, trivial⟩ rfl ?_
    rcases hf with ⟨e, h⟩ | ⟨e, h⟩
    · subst e
      simp (disch := omega) only [↓reduceIte, c7, c8, c9, c10, c11, c12, c13, s0, s1, t0, t1, cI_lt, cI_nat, cI_inj, cI_add, dk_up_eq, dk_up_k, dk_up_i, dk_up_f, le_F, Nat.not_lt_zero, or_self, if_pos, if_neg, Nat.reduceEqDiff]
      exact dk_ex_some
    · subst e
      simp (disch := omega) only [↓reduceIte, c7, c8, c9, c10, c11, c12, c13, s0, s1, t0, t1, cI_lt, cI_nat, cI_inj, cI_add, dk_up_eq, dk_up_k, dk_up_i, dk_up_f, le_F, Nat.not_lt_zero, or_self, if_pos, if_neg, Nat.reduceEqDiff]
      exact dk_ex_some
  · have h1 := PM_mk (f := f) (x4 := 1) (x6 := 0) hM (fun h => by omega)
    have h2 := PM_pr (p := p) (x3 := 1) (x8 := N 8 p) (x9 := N 9 p + 1) (x10 := N 10 p) (m' := dk_up (dk_up (dk_up (dk_up m (13, 3, 0) f (cI 1)) (13, 5, 0) f (cJ 0)) (13, 6, 0) p (cI 1)) (13, 18, 0) p (cI (N 9 p + 1))) h1 (by simp [nU, h3]) (fun _ => by simp [nU, h3]) (by decide) (fun a g h => by
      have n6 : ¬ (a = (13, 6, 0) ∧ g = p) := fun e => h ⟨e.2, by simp [e.1]⟩
      have n18 : ¬ (a = (13, 18, 0) ∧ g = p) := fun e => h ⟨e.2, by simp [e.1]⟩
      rw [dk_up, if_neg n18, dk_up, if_neg n6]) (by simp [dk_up]) (fun _ => by simp [dk_up, c8]) (fun _ => by simp [dk_up, c10])
    have e8 : nU (nU N 4 f 1) 6 f 0 8 p = N 8 p := rfl
    have e10 : nU (nU (nU N 4 f 1) 6 f 0) 9 p (N 9 p + 1) 10 p = N 10 p := rfl
    rw [nQ, ← e8, nU_self, ← e10, nU_self] at h2
    exact h2
theorem md_92_6 (hp : p < 16) (hM : PM N V E W T m) (hB : BD N E W T) (h3 : N 3 p = 6) (h14 : N 14 p = N 11 p) (h15 : N 15 p = N 8 p) : ∃ m', dk_Ev L (92, 0, [(0, vR (12, 0, 0)), (1, vI (cI p))], [], (m, l, .inl (), k, q)) ((m', l, .inl (), k, q), .inl none) ∧ PM (nU (nU (nU N 4 p 3) 6 p 0) 3 p 8) V E W T m' ∧ FrS m m' := by
  have hP := hM.1 p hp
  have hbp := hB.1 p hp
  have c7 : m (13, 6, 0) p = cI (N 3 p) := hP.2.2.2.1
  have s0 : m (13, 3, 0) p = cI (N 4 p) := hP.2.2.2.2.1
  have s1 : m (13, 4, 0) p = cI (N 5 p) := hP.2.2.2.2.2.1
  have hw : N 11 p < 16 ∧ N 12 p ≤ 600 ∧ N 13 p < 4 ∧ N 11 p ≠ p := hbp.2.2.2.2.2.2.2.2.2.2 (by omega)
  obtain ⟨c11, c12, c13⟩ : m (13, 20, 0) p = cI (N 11 p) ∧ m (13, 21, 0) p = cI (N 12 p) ∧ m (13, 22, 0) p = cI (N 13 p) := hP.2.2.2.2.2.2.2.2.2.2.1 (by omega)
  have c8 : m (13, 17, 0) p = cI (N 8 p) := hP.2.2.2.2.2.2.2.2.1 (by omega)
  have hQ := hM.1 (N 11 p) hw.1
  have t0 : m (13, 3, 0) (N 11 p) = cI (N 4 (N 11 p)) := hQ.2.2.2.2.1
  have t1 : m (13, 4, 0) (N 11 p) = cI (N 5 (N 11 p)) := hQ.2.2.2.2.2.1
  have bw : N 4 (N 11 p) ≤ 3 ∧ N 5 (N 11 p) ≤ 600 := by have := hB.1 (N 11 p) hw.1; exact ⟨this.2.2.2.2.1, this.2.2.2.2.2.1⟩
  have bp : N 4 p ≤ 3 ∧ N 5 p ≤ 600 := ⟨hbp.2.2.2.2.1, hbp.2.2.2.2.2.1⟩
  refine ⟨dk_up (dk_up (dk_up (dk_up (dk_up m (13, 3, 0) p (cI 3)) (13, 5, 0) p (cJ 0)) (13, 7, 0) p (cI (N 11 p))) (13, 8, 0) p (cI (N 8 p))) (13, 6, 0) p (cI 8), ?_, PM_close hM h3 h14 h15, by repeat (first | refine FrS_up ⟨Nat.le_of_ble_eq_true rfl, Nat.ne_of_beq_eq_false rfl⟩ rfl ?_ | exact FrS_refl)⟩
  rw [h3] at c7
  refine sg_92_0 ⟨rfl, rfl, rfl, rfl, trivial⟩ rfl ?_
  simp (disch := omega) only [↓reduceIte, c7, c8, c11, c12, c13, s0, s1, t0, t1, cI_lt, cI_nat, cI_inj, cI_add, dk_up_eq, dk_up_k, dk_up_i, dk_up_f, le_F, Nat.not_lt_zero, or_self, if_pos, if_neg, Nat.reduceEqDiff]
  exact dk_ex_some
theorem md_92_no (hp : p < 16) (hM : PM N V E W T m) (h3 : N 3 p = 7 ∨ N 3 p = 8 ∨ N 3 p = 9) : dk_Ev L (92, 0, [(0, vR (12, 0, 0)), (1, vI (cI p))], [], (m, l, .inl (), k, q)) ((m, l, .inl (), k, q), .inl none) := by
  have c7 : m (13, 6, 0) p = cI (N 3 p) := (hM.1 p hp).2.2.2.1
  refine sg_92_0 ⟨rfl, rfl, rfl, rfl, trivial⟩ rfl ?_
  rcases h3 with h | h | h <;> rw [h] at c7 <;> simp (disch := omega) only [↓reduceIte, c7, cI_inj, cI_nat, cI_lt, if_neg, Nat.reduceEqDiff] <;> exact dk_ex_some
theorem md_92_5s (hp : p < 16) (hM : PM N V E W T m) (hB : BD N E W T) (hW : W.length ≤ 127) (h3 : N 3 p = 5) (h4 : N 4 p ≠ 3) (hk : N 16 (4 * p + N 8 p) = 1) : ∃ m', dk_Ev L (92, 0, [(0, vR (12, 0, 0)), (1, vI (cI p))], [], (m, l, .inl (), k, q)) ((m', l, .inl (), k, q), .inl none) ∧ PM (nT N p) (vU (vU V 1 (N 11 p) (V 0 (4 * p + N 8 p))) 1 p (cI 0)) E (W ++ [(p, N 11 p, N 17 (4 * p + N 8 p), p, V 0 (4 * p + N 8 p))]) T m' ∧ FrS m m' := by
  have hP := hM.1 p hp
  have hbp := hB.1 p hp
  have c7 : m (13, 6, 0) p = cI (N 3 p) := hP.2.2.2.1
  have s0 : m (13, 3, 0) p = cI (N 4 p) := hP.2.2.2.2.1
  have s1 : m (13, 4, 0) p = cI (N 5 p) := hP.2.2.2.2.2.1
  have hw : N 11 p < 16 ∧ N 12 p ≤ 600 ∧ N 13 p < 4 ∧ N 11 p ≠ p := hbp.2.2.2.2.2.2.2.2.2.2 (by omega)
  obtain ⟨c11, c12, c13⟩ : m (13, 20, 0) p = cI (N 11 p) ∧ m (13, 21, 0) p = cI (N 12 p) ∧ m (13, 22, 0) p = cI (N 13 p) := hP.2.2.2.2.2.2.2.2.2.2.1 (by omega)
  have c8 : m (13, 17, 0) p = cI (N 8 p) := hP.2.2.2.2.2.2.2.2.1 (by omega)
  have hQ := hM.1 (N 11 p) hw.1
  have t0 : m (13, 3, 0) (N 11 p) = cI (N 4 (N 11 p)) := hQ.2.2.2.2.1
  have t1 : m (13, 4, 0) (N 11 p) = cI (N 5 (N 11 p)) := hQ.2.2.2.2.2.1
  have bw : N 4 (N 11 p) ≤ 3 ∧ N 5 (N 11 p) ≤ 600 := by have := hB.1 (N 11 p) hw.1; exact ⟨this.2.2.2.2.1, this.2.2.2.2.2.1⟩
  have bp : N 4 p ≤ 3 ∧ N 5 p ≤ 600 := ⟨hbp.2.2.2.2.1, hbp.2.2.2.2.2.1⟩
  have g8 : N 8 p < 4 := by have := hbp.2.2.2.2.2.2.2.2.1 (by omega); have := hbp.2.1; omega
  obtain ⟨g0, g1, g2, g3⟩ : PMg N V m (4 * p + N 8 p) := hM.2.1 (4 * p + N 8 p) (by omega)
  have gw : m (13, 13, 0) (4 * N 11 p + N 13 p) = V 0 (4 * N 11 p + N 13 p) := (hM.2.1 (4 * N 11 p + N 13 p) (by omega)).2.2.1
  have z5 : m (12, 0, 0) 26 = cI W.length := hM.2.2.2.1.1
  rw [hk] at g0
  have d1 : (4 * p + N 8 p) / 4 = p := by omega
  have hne1 : ¬ 4 * p + N 8 p = 4 * N 11 p + N 13 p := by omega
  have hne2 : ¬ 4 * N 11 p + N 13 p = 4 * p + N 8 p := by omega
  refine ⟨dk_up (dk_up (dk_up (dk_up (dk_up (dk_up (dk_up (dk_up (dk_up (dk_up (dk_up (dk_up (dk_up m (13, 3, 0) (N 11 p) (cI 3)) (13, 5, 0) (N 11 p) (cJ 0)) (13, 7, 0) (N 11 p) (cI p)) (13, 8, 0) (N 11 p) (cI (N 13 p))) (13, 27, 0) (5 * W.length) (cI p)) (13, 27, 0) (5 * W.length + 1) (cI (N 11 p))) (13, 27, 0) (5 * W.length + 2) (cI (N 17 (4 * p + N 8 p)))) (13, 27, 0) (5 * W.length + 3) (cI p)) (13, 27, 0) (5 * W.length + 4) (V 0 (4 * p + N 8 p))) (13, 9, 0) p (cI 0)) (13, 9, 0) (N 11 p) (V 0 (4 * p + N 8 p))) (12, 0, 0) 26 (cI (W.length + 1))) (13, 6, 0) p (cI 6), ?_, PM_tell hM h3 h4 hw.2.2.2, by repeat (first | refine FrS_up ⟨Nat.le_of_ble_eq_true rfl, Nat.ne_of_beq_eq_false rfl⟩ rfl ?_ | exact FrS_refl)⟩
  rw [h3] at c7
  refine sg_92_0 ⟨rfl, rfl, rfl, rfl, trivial⟩ rfl ?_
  simp (disch := omega) only [↓reduceIte, c7, c8, c11, c13, g0, g1, g2, gw, z5, d1, cI_lt, cI_nat, cI_inj, cI_add, cI_mul, cI_div, dk_up_eq, dk_up_k, dk_up_i, dk_up_f, le_F, Nat.not_lt_zero, or_self, hne1, hne2, Nat.reduceEqDiff]
  exact dk_ex_some
theorem md_92_5r (hp : p < 16) (hM : PM N V E W T m) (hB : BD N E W T) (hW : W.length ≤ 127) (h3 : N 3 p = 5) (h4 : N 4 p ≠ 3) (hk : N 16 (4 * p + N 8 p) = 0) : ∃ m', dk_Ev L (92, 0, [(0, vR (12, 0, 0)), (1, vI (cI p))], [], (m, l, .inl (), k, q)) ((m', l, .inl (), k, q), .inl none) ∧ PM (nT N p) (vU (vU V 1 (N 11 p) (cI 0)) 1 p (V 0 (4 * N 11 p + N 13 p))) E (W ++ [(p, N 11 p, N 17 (4 * p + N 8 p), (N 11 p), V 0 (4 * N 11 p + N 13 p))]) T m' ∧ FrS m m' := by
  have hP := hM.1 p hp
  have hbp := hB.1 p hp
  have c7 : m (13, 6, 0) p = cI (N 3 p) := hP.2.2.2.1
  have s0 : m (13, 3, 0) p = cI (N 4 p) := hP.2.2.2.2.1
  have s1 : m (13, 4, 0) p = cI (N 5 p) := hP.2.2.2.2.2.1
  have hw : N 11 p < 16 ∧ N 12 p ≤ 600 ∧ N 13 p < 4 ∧ N 11 p ≠ p := hbp.2.2.2.2.2.2.2.2.2.2 (by omega)
  obtain ⟨c11, c12, c13⟩ : m (13, 20, 0) p = cI (N 11 p) ∧ m (13, 21, 0) p = cI (N 12 p) ∧ m (13, 22, 0) p = cI (N 13 p) := hP.2.2.2.2.2.2.2.2.2.2.1 (by omega)
  have c8 : m (13, 17, 0) p = cI (N 8 p) := hP.2.2.2.2.2.2.2.2.1 (by omega)
  have hQ := hM.1 (N 11 p) hw.1
  have t0 : m (13, 3, 0) (N 11 p) = cI (N 4 (N 11 p)) := hQ.2.2.2.2.1
  have t1 : m (13, 4, 0) (N 11 p) = cI (N 5 (N 11 p)) := hQ.2.2.2.2.2.1
  have bw : N 4 (N 11 p) ≤ 3 ∧ N 5 (N 11 p) ≤ 600 := by have := hB.1 (N 11 p) hw.1; exact ⟨this.2.2.2.2.1, this.2.2.2.2.2.1⟩
  have bp : N 4 p ≤ 3 ∧ N 5 p ≤ 600 := ⟨hbp.2.2.2.2.1, hbp.2.2.2.2.2.1⟩
  have g8 : N 8 p < 4 := by have := hbp.2.2.2.2.2.2.2.2.1 (by omega); have := hbp.2.1; omega
  obtain ⟨g0, g1, g2, g3⟩ : PMg N V m (4 * p + N 8 p) := hM.2.1 (4 * p + N 8 p) (by omega)
  have gw : m (13, 13, 0) (4 * N 11 p + N 13 p) = V 0 (4 * N 11 p + N 13 p) := (hM.2.1 (4 * N 11 p + N 13 p) (by omega)).2.2.1
  have z5 : m (12, 0, 0) 26 = cI W.length := hM.2.2.2.1.1
  rw [hk] at g0
  have d1 : (4 * N 11 p + N 13 p) / 4 = N 11 p := by omega
  have hne1 : ¬ 4 * p + N 8 p = 4 * N 11 p + N 13 p := by omega
  have hne2 : ¬ 4 * N 11 p + N 13 p = 4 * p + N 8 p := by omega
  refine ⟨dk_up (dk_up (dk_up (dk_up (dk_up (dk_up (dk_up (dk_up (dk_up (dk_up (dk_up (dk_up (dk_up m (13, 3, 0) (N 11 p) (cI 3)) (13, 5, 0) (N 11 p) (cJ 0)) (13, 7, 0) (N 11 p) (cI p)) (13, 8, 0) (N 11 p) (cI (N 13 p))) (13, 27, 0) (5 * W.length) (cI p)) (13, 27, 0) (5 * W.length + 1) (cI (N 11 p))) (13, 27, 0) (5 * W.length + 2) (cI (N 17 (4 * p + N 8 p)))) (13, 27, 0) (5 * W.length + 3) (cI (N 11 p))) (13, 27, 0) (5 * W.length + 4) (V 0 (4 * N 11 p + N 13 p))) (13, 9, 0) p (V 0 (4 * N 11 p + N 13 p))) (13, 9, 0) (N 11 p) (cI 0)) (12, 0, 0) 26 (cI (W.length + 1))) (13, 6, 0) p (cI 6), ?_, PM_tell hM h3 h4 hw.2.2.2, by repeat (first | refine FrS_up ⟨Nat.le_of_ble_eq_true rfl, Nat.ne_of_beq_eq_false rfl⟩ rfl ?_ | exact FrS_refl)⟩
  rw [h3] at c7
  refine sg_92_0 ⟨rfl, rfl, rfl, rfl, trivial⟩ rfl ?_
  simp (disch := omega) only [↓reduceIte, c7, c8, c11, c13, g0, g1, g2, gw, z5, d1, cI_lt, cI_nat, cI_inj, cI_add, cI_mul, cI_div, dk_up_eq, dk_up_k, dk_up_i, dk_up_f, le_F, Nat.not_lt_zero, or_self, hne1, hne2, Nat.reduceEqDiff]
  exact dk_ex_some
end
