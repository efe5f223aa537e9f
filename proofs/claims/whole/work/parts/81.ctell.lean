/-! the class tells -/
section
variable {L : Nat} {N : dkNN} {V : dkVV} {E : dkEE} {W : dkWW} {T : Nat} {m : dkM} {l : Int64} {k q : Nat} {p : Nat}
theorem cl_47_5s (hp : p < 16) (hC : PC N V E W T m) (hB : BD N E W T) (hW : W.length ≤ 127) (h3 : N 3 p = 5) (hk : N 16 (4 * p + N 8 p) = 1) : ∃ m', dk_Ev L (47, 0, [(0, vR (0, 0, 0)), (1, vR (2, p, 0))], [], (m, l, .inl (), k, q)) ((m', l, .inl (), k, q), .inl none) ∧ PC (nT N p) (vU (vU V 1 (N 11 p) (V 0 (4 * p + N 8 p))) 1 p (cI 0)) E (W ++ [(p, N 11 p, N 17 (4 * p + N 8 p), p, V 0 (4 * p + N 8 p))]) T m' ∧ FrC m m' := by
  have hP := hC.1 p hp
  have hbp := hB.1 p hp
  have c0 : m (2, p, 0) 0 = cI p := hP.1
  have c7 : m (2, p, 0) 7 = cI (N 3 p) := hP.2.2.2.2.1
  have s0 : m (3, p, 0) 0 = cI (N 4 p) := hP.2.2.2.2.2.1
  have s1 : m (3, p, 0) 1 = cI (N 5 p) := hP.2.2.2.2.2.2.1
  have hw : N 11 p < 16 ∧ N 12 p ≤ 600 ∧ N 13 p < 4 ∧ N 11 p ≠ p := hbp.2.2.2.2.2.2.2.2.2.2 (by omega)
  obtain ⟨c11, c12, c13⟩ : m (2, p, 0) 11 = cI (N 11 p) ∧ m (2, p, 0) 12 = cI (N 12 p) ∧ m (2, p, 0) 13 = cI (N 13 p) := hP.2.2.2.2.2.2.2.2.2.2.2.1 (by omega)
  have c8 : m (2, p, 0) 8 = cI (N 8 p) := hP.2.2.2.2.2.2.2.2.2.1 (by omega)
  have hQ := hC.1 (N 11 p) hw.1
  have w0 : m (2, N 11 p, 0) 0 = cI (N 11 p) := hQ.1
  have t0 : m (3, N 11 p, 0) 0 = cI (N 4 (N 11 p)) := hQ.2.2.2.2.2.1
  have t1 : m (3, N 11 p, 0) 1 = cI (N 5 (N 11 p)) := hQ.2.2.2.2.2.2.1
  have bw : N 4 (N 11 p) ≤ 3 ∧ N 5 (N 11 p) ≤ 600 := by have := hB.1 (N 11 p) hw.1; exact ⟨this.2.2.2.2.1, this.2.2.2.2.2.1⟩
  have bp : N 4 p ≤ 3 ∧ N 5 p ≤ 600 := ⟨hbp.2.2.2.2.1, hbp.2.2.2.2.2.1⟩
  have g8 : N 8 p < 4 := by have := hbp.2.2.2.2.2.2.2.2.1 (by omega); have := hbp.2.1; omega
  obtain ⟨g0, g1, g2, g3⟩ : PCg N V m p (N 8 p) := hC.2.1 p hp (N 8 p) g8
  have gw : m (5, N 11 p, N 13 p) 2 = V 0 (4 * N 11 p + N 13 p) := (hC.2.1 (N 11 p) hw.1 (N 13 p) hw.2.2.1).2.2.1
  have z5 : m (9, 0, 0) 5 = cI W.length := hC.2.2.2.1.1
  rw [hk] at g0
  refine ⟨dk_up (dk_up (dk_up (dk_up (dk_up (dk_up (dk_up (dk_up (dk_up (dk_up (dk_up (dk_up (dk_up (dk_up (dk_up m (3, N 11 p, 0) 3 (cI p)) (3, N 11 p, 0) 4 (cI (N 13 p))) (3, N 11 p, 0) 5 (V 0 (4 * p + N 8 p))) (3, N 11 p, 0) 0 (cI 3)) (3, N 11 p, 0) 2 (cJ 0)) (3, p, 0) 3 (cI (N 11 p))) (3, p, 0) 4 (cI (N 8 p))) (3, p, 0) 5 (cI 0)) (10, 0, 0) W.length (cI p)) (10, 1, 0) W.length (cI (N 11 p))) (10, 2, 0) W.length (cI (N 17 (4 * p + N 8 p)))) (10, 3, 0) W.length (cI p)) (10, 4, 0) W.length (V 0 (4 * p + N 8 p))) (9, 0, 0) 5 (cI (W.length + 1))) (2, p, 0) 7 (cI 6), ?_, ?_, by repeat (first | refine FrC_up (Nat.le_of_ble_eq_true rfl) ?_ | exact FrC_refl)⟩
  · rw [h3] at c7
    refine sg_47_0 ⟨rfl, rfl, rfl, rfl, trivial⟩ rfl ?_
    simp (disch := omega) only [↓reduceIte, c0, c7, c8, c11, c13, w0, g0, g1, g2, gw, z5, cI_lt, cI_nat, cI_inj, cI_add, dk_up_eq, dk_up_k, dk_up_f, if_pos, if_neg, Nat.reduceEqDiff, Nat.not_lt_zero, false_or]
    exact dk_ex_some
  · have h1 := PC_keep (f := N 11 p) (a := p) (b := N 13 p) (x := (V 0 (4 * p + N 8 p))) hC
    have h2 := PC_mk (f := N 11 p) (x4 := 3) (x6 := 0) h1 (fun _ => by simp [dk_up, nU, vU])
    have h4 := PC_keep (f := p) (a := N 11 p) (b := N 8 p) (x := (cI 0)) h2
    have h5 := PC_log (a := p) (b := N 11 p) (c := N 17 (4 * p + N 8 p)) (d := p) (x := V 0 (4 * p + N 8 p)) h4
    have h6 := PC_pr (p := p) (x3 := 6) (x8 := N 8 p) (x9 := N 9 p) (x10 := N 10 p) (m' := dk_up (dk_up (dk_up (dk_up (dk_up (dk_up (dk_up (dk_up (dk_up (dk_up (dk_up (dk_up (dk_up (dk_up (dk_up m (3, N 11 p, 0) 3 (cI p)) (3, N 11 p, 0) 4 (cI (N 13 p))) (3, N 11 p, 0) 5 (V 0 (4 * p + N 8 p))) (3, N 11 p, 0) 0 (cI 3)) (3, N 11 p, 0) 2 (cJ 0)) (3, p, 0) 3 (cI (N 11 p))) (3, p, 0) 4 (cI (N 8 p))) (3, p, 0) 5 (cI 0)) (10, 0, 0) W.length (cI p)) (10, 1, 0) W.length (cI (N 11 p))) (10, 2, 0) W.length (cI (N 17 (4 * p + N 8 p)))) (10, 3, 0) W.length (cI p)) (10, 4, 0) W.length (V 0 (4 * p + N 8 p))) (9, 0, 0) 5 (cI (W.length + 1))) (2, p, 0) 7 (cI 6)) h5 (by simp [nU, h3]) (fun _ => by simp [nU, h3]) (fun _ => by simp [dk_up, nU, vU]) (fun a g h => if_neg (fun e => h ⟨e.1, Or.inl e.2⟩)) dk_up_eq (fun _ => by simp [dk_up, c8]) (fun h => by omega)
    rw [nQ_keep] at h6
    · exact h6
    · rfl
    · rfl
    · rfl
theorem cl_47_5r (hp : p < 16) (hC : PC N V E W T m) (hB : BD N E W T) (hW : W.length ≤ 127) (h3 : N 3 p = 5) (hk : N 16 (4 * p + N 8 p) = 0) : ∃ m', dk_Ev L (47, 0, [(0, vR (0, 0, 0)), (1, vR (2, p, 0))], [], (m, l, .inl (), k, q)) ((m', l, .inl (), k, q), .inl none) ∧ PC (nT N p) (vU (vU V 1 (N 11 p) (cI 0)) 1 p (V 0 (4 * N 11 p + N 13 p))) E (W ++ [(p, N 11 p, N 17 (4 * p + N 8 p), (N 11 p), V 0 (4 * N 11 p + N 13 p))]) T m' ∧ FrC m m' := by
  have hP := hC.1 p hp
  have hbp := hB.1 p hp
  have c0 : m (2, p, 0) 0 = cI p := hP.1
  have c7 : m (2, p, 0) 7 = cI (N 3 p) := hP.2.2.2.2.1
  have s0 : m (3, p, 0) 0 = cI (N 4 p) := hP.2.2.2.2.2.1
  have s1 : m (3, p, 0) 1 = cI (N 5 p) := hP.2.2.2.2.2.2.1
  have hw : N 11 p < 16 ∧ N 12 p ≤ 600 ∧ N 13 p < 4 ∧ N 11 p ≠ p := hbp.2.2.2.2.2.2.2.2.2.2 (by omega)
  obtain ⟨c11, c12, c13⟩ : m (2, p, 0) 11 = cI (N 11 p) ∧ m (2, p, 0) 12 = cI (N 12 p) ∧ m (2, p, 0) 13 = cI (N 13 p) := hP.2.2.2.2.2.2.2.2.2.2.2.1 (by omega)
  have c8 : m (2, p, 0) 8 = cI (N 8 p) := hP.2.2.2.2.2.2.2.2.2.1 (by omega)
  have hQ := hC.1 (N 11 p) hw.1
  have w0 : m (2, N 11 p, 0) 0 = cI (N 11 p) := hQ.1
  have t0 : m (3, N 11 p, 0) 0 = cI (N 4 (N 11 p)) := hQ.2.2.2.2.2.1
  have t1 : m (3, N 11 p, 0) 1 = cI (N 5 (N 11 p)) := hQ.2.2.2.2.2.2.1
  have bw : N 4 (N 11 p) ≤ 3 ∧ N 5 (N 11 p) ≤ 600 := by have := hB.1 (N 11 p) hw.1; exact ⟨this.2.2.2.2.1, this.2.2.2.2.2.1⟩
  have bp : N 4 p ≤ 3 ∧ N 5 p ≤ 600 := ⟨hbp.2.2.2.2.1, hbp.2.2.2.2.2.1⟩
  have g8 : N 8 p < 4 := by have := hbp.2.2.2.2.2.2.2.2.1 (by omega); have := hbp.2.1; omega
  obtain ⟨g0, g1, g2, g3⟩ : PCg N V m p (N 8 p) := hC.2.1 p hp (N 8 p) g8
  have gw : m (5, N 11 p, N 13 p) 2 = V 0 (4 * N 11 p + N 13 p) := (hC.2.1 (N 11 p) hw.1 (N 13 p) hw.2.2.1).2.2.1
  have z5 : m (9, 0, 0) 5 = cI W.length := hC.2.2.2.1.1
  rw [hk] at g0
  refine ⟨dk_up (dk_up (dk_up (dk_up (dk_up (dk_up (dk_up (dk_up (dk_up (dk_up (dk_up (dk_up (dk_up (dk_up (dk_up m (3, N 11 p, 0) 3 (cI p)) (3, N 11 p, 0) 4 (cI (N 13 p))) (3, N 11 p, 0) 5 (cI 0)) (3, N 11 p, 0) 0 (cI 3)) (3, N 11 p, 0) 2 (cJ 0)) (3, p, 0) 3 (cI (N 11 p))) (3, p, 0) 4 (cI (N 8 p))) (3, p, 0) 5 (V 0 (4 * N 11 p + N 13 p))) (10, 0, 0) W.length (cI p)) (10, 1, 0) W.length (cI (N 11 p))) (10, 2, 0) W.length (cI (N 17 (4 * p + N 8 p)))) (10, 3, 0) W.length (cI (N 11 p))) (10, 4, 0) W.length (V 0 (4 * N 11 p + N 13 p))) (9, 0, 0) 5 (cI (W.length + 1))) (2, p, 0) 7 (cI 6), ?_, ?_, by repeat (first | refine FrC_up (Nat.le_of_ble_eq_true rfl) ?_ | exact FrC_refl)⟩
  · rw [h3] at c7
    refine sg_47_0 ⟨rfl, rfl, rfl, rfl, trivial⟩ rfl ?_
    simp (disch := omega) only [↓reduceIte, c0, c7, c8, c11, c13, w0, g0, g1, g2, gw, z5, cI_lt, cI_nat, cI_inj, cI_add, dk_up_eq, dk_up_k, dk_up_f, if_pos, if_neg, Nat.reduceEqDiff, Nat.not_lt_zero, false_or]
    exact dk_ex_some
  · have h1 := PC_keep (f := N 11 p) (a := p) (b := N 13 p) (x := (cI 0)) hC
    have h2 := PC_mk (f := N 11 p) (x4 := 3) (x6 := 0) h1 (fun _ => by simp [dk_up, nU, vU])
    have h4 := PC_keep (f := p) (a := N 11 p) (b := N 8 p) (x := (V 0 (4 * N 11 p + N 13 p))) h2
    have h5 := PC_log (a := p) (b := N 11 p) (c := N 17 (4 * p + N 8 p)) (d := (N 11 p)) (x := V 0 (4 * N 11 p + N 13 p)) h4
    have h6 := PC_pr (p := p) (x3 := 6) (x8 := N 8 p) (x9 := N 9 p) (x10 := N 10 p) (m' := dk_up (dk_up (dk_up (dk_up (dk_up (dk_up (dk_up (dk_up (dk_up (dk_up (dk_up (dk_up (dk_up (dk_up (dk_up m (3, N 11 p, 0) 3 (cI p)) (3, N 11 p, 0) 4 (cI (N 13 p))) (3, N 11 p, 0) 5 (cI 0)) (3, N 11 p, 0) 0 (cI 3)) (3, N 11 p, 0) 2 (cJ 0)) (3, p, 0) 3 (cI (N 11 p))) (3, p, 0) 4 (cI (N 8 p))) (3, p, 0) 5 (V 0 (4 * N 11 p + N 13 p))) (10, 0, 0) W.length (cI p)) (10, 1, 0) W.length (cI (N 11 p))) (10, 2, 0) W.length (cI (N 17 (4 * p + N 8 p)))) (10, 3, 0) W.length (cI (N 11 p))) (10, 4, 0) W.length (V 0 (4 * N 11 p + N 13 p))) (9, 0, 0) 5 (cI (W.length + 1))) (2, p, 0) 7 (cI 6)) h5 (by simp [nU, h3]) (fun _ => by simp [nU, h3]) (fun _ => by simp [dk_up, nU, vU]) (fun a g h => if_neg (fun e => h ⟨e.1, Or.inl e.2⟩)) dk_up_eq (fun _ => by simp [dk_up, c8]) (fun h => by omega)
    rw [nQ_keep] at h6
    · exact h6
    · rfl
    · rfl
    · rfl
end
