/-! the class publishes and looks -/
section
variable {L : Nat} {N : dkNN} {V : dkVV} {E : dkEE} {W : dkWW} {T : Nat} {m : dkM} {l : Int64} {k q : Nat} {p : Nat}
theorem cl_31 {j : Nat} (hG : GrC N m p) (hj : dk_nx N p (N 1 p) 0 = j + 1) : dk_Ev L (31, 0, [(0, vR (2, p, 0))], [], (m, l, .inl (), k, q)) ((dk_up (dk_up (dk_up (dk_up m (2, p, 0) 8 (cI j)) (2, p, 0) 9 (cI 0)) (2, p, 0) 10 (cI 1)) (2, p, 0) 7 (cI 1), l, .inl (), k, q), .inl none) := by
  have hg := cl_gof (L := L) (l := l) (k := k) (q := q) hG (Nat.zero_le _)
  rw [Nat.sub_zero, hj] at hg
  refine sg_31_0 ⟨rfl, rfl, trivial⟩ rfl (dk_ex_run (kv_31_3 hg (sg_31_6 ⟨rfl, rfl, trivial⟩ rfl ?_)))
  simp only [cJ_succ]
  exact dk_ex_some
theorem dk_nx_own {g : Nat} (hg : g < N 1 p) (ho : N 18 (4 * p + g) = 1) : ∃ j, dk_nx N p (N 1 p) 0 = j + 1 ∧ j < N 1 p ∧ N 18 (4 * p + j) = 1 := by
  have h := dk_nx_some (N := N) (p := p) (j := g) ho (N 1 p) 0 (by omega) (by omega)
  rcases dk_nx_spec (N := N) (p := p) (N 1 p) 0 with e | ⟨j, e, h1, h2, h3⟩
  · exact absurd e h
  · exact ⟨j, e, by omega, h3⟩
theorem GrC_up {a : dkI} {f : Nat} {x : Int32} (hG : GrC N m p) (ha : (a.1 ≠ 2 ∧ a.1 ≠ 5) ∨ (a.1 = 2 ∧ f ≠ 4)) : GrC N (dk_up m a f x) p := by
  obtain ⟨h1, h2, h3⟩ := hG
  refine ⟨?_, h2, fun g hg => ⟨?_, (h3 g hg).2⟩⟩
  · rw [dk_up, if_neg (fun e => by rw [← e.1] at ha; rcases ha with h | h <;> simp at h; omega)]; exact h1
  · rw [dk_up, if_neg (fun e => by rw [← e.1] at ha; rcases ha with h | h <;> simp at h)]; exact (h3 g hg).1
/-- the heap behind an entry added -/
def dk_ap (m : dkM) (E : dkEE) (c a b g : Nat) : dkM := dk_up (dk_up (dk_up (dk_up m (8, c, 0) (E c).length (cI a)) (8, c, 1) (E c).length (cI b)) (8, c, 2) (E c).length (cI g)) (7, c, 0) 3 (cI ((E c).length + 1))
theorem cl_32_pre {y : dkY} (hp : p < 16) (hC : PC N V E W T m) (hB : BD N E W T) (h3 : N 3 p = 0) (hr : (E (N 17 (4 * p + N 8 p))).length ≤ 63) (hk : dk_Ev L (32, 44, [(2, vI (cI (N 17 (4 * p + N 8 p)))), (0, vR (0, 0, 0)), (1, vR (2, p, 0))], [vI (cI (N 8 p + 1)), vR (2, p, 0)], (dk_ap m E (N 17 (4 * p + N 8 p)) p (N 5 p) (N 8 p), l, .inl (), k, q)) y) : dk_Ev L (32, 0, [(0, vR (0, 0, 0)), (1, vR (2, p, 0))], [], (m, l, .inl (), k, q)) y := by
  have hP := hC.1 p hp
  have hbp := hB.1 p hp
  have c0 : m (2, p, 0) 0 = cI p := hP.1
  have s1 : m (3, p, 0) 1 = cI (N 5 p) := hP.2.2.2.2.2.2.1
  have c8 : m (2, p, 0) 8 = cI (N 8 p) := hP.2.2.2.2.2.2.2.2.2.1 (by omega)
  have g8 : N 8 p < 4 := by have := hbp.2.2.2.2.2.2.2.2.1 (by omega); have := hbp.2.1; omega
  have g1 : m (5, p, N 8 p) 1 = cI (N 17 (4 * p + N 8 p)) := (hC.2.1 p hp (N 8 p) g8).2.1
  have hc : N 17 (4 * p + N 8 p) < 8 := (hB.2.1 (4 * p + N 8 p) (by omega)).2.1
  have z : m (7, N 17 (4 * p + N 8 p), 0) 3 = cI (E (N 17 (4 * p + N 8 p))).length := (hC.2.2.1 _ hc).1
  refine sg_32_0 ⟨rfl, rfl, rfl, rfl, trivial⟩ rfl ?_
  simp (disch := omega) only [↓reduceIte, c0, c8, s1, g1, z, cI_lt, cI_nat, cI_inj, cI_add, dk_up_eq, dk_up_k, dk_up_f, if_pos, if_neg]
  exact dk_ex_run hk
theorem cl_32n {j : Nat} (hp : p < 16) (hC : PC N V E W T m) (hB : BD N E W T) (h3 : N 3 p = 0) (hr : (E (N 17 (4 * p + N 8 p))).length ≤ 63) (hj : dk_nx N p (N 1 p - (N 8 p + 1)) (N 8 p + 1) = j + 1) : ∃ m', dk_Ev L (32, 0, [(0, vR (0, 0, 0)), (1, vR (2, p, 0))], [], (m, l, .inl (), k, q)) ((m', l, .inl (), k, q), .inl none) ∧ PC (nQ N p 0 j 0 0) V (eU E (N 17 (4 * p + N 8 p)) (E (N 17 (4 * p + N 8 p)) ++ [(4 * p + N 8 p, N 5 p)])) W T m' ∧ FrC m m' := by
  have hbp := hB.1 p hp
  have g8 : N 8 p < N 1 p := (hbp.2.2.2.2.2.2.2.2.1 (by omega)).1
  have hl := hbp.2.1
  have hG : GrC N (dk_ap m E (N 17 (4 * p + N 8 p)) p (N 5 p) (N 8 p)) p := GrC_up (GrC_up (GrC_up (GrC_up (GrC_of hp hC hB) (Or.inl (by simp))) (Or.inl (by simp))) (Or.inl (by simp))) (Or.inl (by simp))
  have hg := cl_gof (L := L) (l := l) (k := k) (q := q) hG (g := N 8 p + 1) (by omega)
  rw [hj] at hg
  refine ⟨dk_up (dk_ap m E (N 17 (4 * p + N 8 p)) p (N 5 p) (N 8 p)) (2, p, 0) 8 (cI j), cl_32_pre hp hC hB h3 hr (kv_32_44 hg (sg_32_47 ⟨rfl, rfl, trivial⟩ rfl ?_)), ?_, ?_⟩
  · have hjb : j < 4 := by have := dk_nx_le (N := N) (p := p) (N 1 p - (N 8 p + 1)) (N 8 p + 1); omega
    have hne : ¬ cJ (j + 1) = cJ 0 := fun c => by rw [cJ_inj (by omega) (by omega)] at c; omega
    simp only [if_neg hne]
    exact dk_ex_some
  · have c7 : m (2, p, 0) 7 = cI (N 3 p) := (hC.1 p hp).2.2.2.2.1
    refine PC_pr (PC_app (c := N 17 (4 * p + N 8 p)) (a := p) (b := N 5 p) (g := N 8 p) hC (by omega)) (by omega) (fun h => by omega) (fun h => by omega) (fun a g h => if_neg (fun e => h ⟨e.1, by omega⟩)) ?_ (fun _ => dk_up_eq) (fun h => by omega)
    simp [dk_up, dk_ap, c7, h3]
  · exact FrC_up (Nat.le_of_ble_eq_true rfl) (FrC_up (Nat.le_of_ble_eq_true rfl) (FrC_up (Nat.le_of_ble_eq_true rfl) (FrC_up (Nat.le_of_ble_eq_true rfl) (FrC_up (Nat.le_of_ble_eq_true rfl) FrC_refl))))
theorem cl_32l {j : Nat} (hp : p < 16) (hC : PC N V E W T m) (hB : BD N E W T) (h3 : N 3 p = 0) (hr : (E (N 17 (4 * p + N 8 p))).length ≤ 63) (hj : dk_nx N p (N 1 p - (N 8 p + 1)) (N 8 p + 1) = 0) (hj0 : dk_nx N p (N 1 p) 0 = j + 1) : ∃ m', dk_Ev L (32, 0, [(0, vR (0, 0, 0)), (1, vR (2, p, 0))], [], (m, l, .inl (), k, q)) ((m', l, .inl (), k, q), .inl none) ∧ PC (nQ N p 1 j 0 1) V (eU E (N 17 (4 * p + N 8 p)) (E (N 17 (4 * p + N 8 p)) ++ [(4 * p + N 8 p, N 5 p)])) W T m' ∧ FrC m m' := by
  have hbp := hB.1 p hp
  have g8 : N 8 p < N 1 p := (hbp.2.2.2.2.2.2.2.2.1 (by omega)).1
  have hl := hbp.2.1
  have hG : GrC N (dk_ap m E (N 17 (4 * p + N 8 p)) p (N 5 p) (N 8 p)) p := GrC_up (GrC_up (GrC_up (GrC_up (GrC_of hp hC hB) (Or.inl (by simp))) (Or.inl (by simp))) (Or.inl (by simp))) (Or.inl (by simp))
  have hg := cl_gof (L := L) (l := l) (k := k) (q := q) hG (g := N 8 p + 1) (by omega)
  rw [hj] at hg
  refine ⟨dk_up (dk_up (dk_up (dk_up (dk_ap m E (N 17 (4 * p + N 8 p)) p (N 5 p) (N 8 p)) (2, p, 0) 8 (cI j)) (2, p, 0) 9 (cI 0)) (2, p, 0) 10 (cI 1)) (2, p, 0) 7 (cI 1), cl_32_pre hp hC hB h3 hr (kv_32_44 hg (sg_32_47 ⟨rfl, rfl, trivial⟩ rfl ?_)), ?_, ?_⟩
  · simp only [if_true]
    refine dk_ex_run (kv_32_54 (cl_31 hG hj0) (sg_32_57 trivial rfl dk_ex_some))
  · exact PC_pr (PC_app (c := N 17 (4 * p + N 8 p)) (a := p) (b := N 5 p) (g := N 8 p) hC (by omega)) (by omega) (fun h => by omega) (fun h => by omega) (fun a g h => by
      have n7 : ¬ (a = (2, p, 0) ∧ g = 7) := fun e => h ⟨e.1, by omega⟩
      have n8 : ¬ (a = (2, p, 0) ∧ g = 8) := fun e => h ⟨e.1, by omega⟩
      have n9 : ¬ (a = (2, p, 0) ∧ g = 9) := fun e => h ⟨e.1, by omega⟩
      have n10 : ¬ (a = (2, p, 0) ∧ g = 10) := fun e => h ⟨e.1, by omega⟩
      rw [dk_up, if_neg n7, dk_up, if_neg n10, dk_up, if_neg n9, dk_up, if_neg n8]; rfl) dk_up_eq (fun _ => by simp [dk_up]) (fun _ => by simp [dk_up])
  · repeat (first | refine FrC_up (Nat.le_of_ble_eq_true rfl) ?_ | exact FrC_refl)
end
