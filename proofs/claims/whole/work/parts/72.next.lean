/-! the next guard that is on, in both programs -/
theorem dk_nx_spec {N : dkNN} {p : Nat} : ∀ (k g : Nat), dk_nx N p k g = 0 ∨ ∃ j, dk_nx N p k g = j + 1 ∧ g ≤ j ∧ j < g + k ∧ N 18 (4 * p + j) = 1
  | 0, _ => Or.inl rfl
  | k + 1, g => by
    by_cases h : N 18 (4 * p + g) = 1
    · exact Or.inr ⟨g, by simp only [dk_nx, if_pos h], Nat.le_refl _, by omega, h⟩
    · simp only [dk_nx, if_neg h]
      rcases dk_nx_spec k (g + 1) with e | ⟨j, e, h1, h2, h3⟩
      · exact Or.inl e
      · exact Or.inr ⟨j, e, by omega, by omega, h3⟩
theorem dk_nx_some {N : dkNN} {p j : Nat} (hj : N 18 (4 * p + j) = 1) : ∀ (k g : Nat), g ≤ j → j < g + k → dk_nx N p k g ≠ 0
  | 0, g, h1, h2 => by omega
  | k + 1, g, h1, h2 => by
    by_cases h : N 18 (4 * p + g) = 1
    · simp only [dk_nx, if_pos h]; omega
    · simp only [dk_nx, if_neg h]
      have : g ≠ j := fun e => h (by rw [e]; exact hj)
      exact dk_nx_some hj k (g + 1) (by omega) (by omega)
theorem dk_nx_le {N : dkNN} {p : Nat} (k g : Nat) : dk_nx N p k g ≤ g + k := by
  rcases dk_nx_spec (N := N) (p := p) k g with e | ⟨j, e, h1, h2, h3⟩ <;> omega
section
variable {L : Nat} {N : dkNN} {m : dkM} {l : Int64} {k q : Nat} {p : Nat}
theorem dk_ev_ls {mi pc : Nat} {ls ls' : dkL} {st : List dkV} {h : dkH} {y : dkY} (e : dk_Ev L (mi, pc, ls, st, h) y) (hs : dk_Sub ls ls') (hn : dk_nol ls' = true) : dk_Ev L (mi, pc, ls', st, h) y := by
  obtain ⟨n, hx⟩ := e
  have h1 := dk_Sub_le hs
  exact ⟨n, dk_ls_run _ _ _ _ _ _ _ _ _ (fun _ _ h => h) ⟨h1.1, h1.2, dk_nol_of hn⟩ _ hx⟩
/-- what the search reads -/
def GrC (N : dkNN) (m : dkM) (p : Nat) : Prop := m (2, p, 0) 4 = cI (N 1 p) ∧ N 1 p ≤ 4 ∧ ∀ g, g < 4 → m (5, p, g) 3 = cI (N 18 (4 * p + g)) ∧ N 18 (4 * p + g) ≤ 1
def GrM (N : dkNN) (m : dkM) (p : Nat) : Prop := m (13, 10, 0) p = cI (N 1 p) ∧ N 1 p ≤ 4 ∧ ∀ g, g < 4 → m (16, 14, 0) (4 * p + g) = cI (N 18 (4 * p + g)) ∧ N 18 (4 * p + g) ≤ 1
theorem cl_gof_loop (hG : GrC N m p) : ∀ (j g : Nat), g + j = N 1 p → dk_Ev L (25, 2, [(2, vI (cI g)), (0, vR (2, p, 0))], [], (m, l, .inl (), k, q)) ((m, l, .inl (), k, q), .inl (some (vI (cJ (dk_nx N p j g))))) := by
  obtain ⟨hc, h1, hr⟩ := hG
  intro j
  induction j with
  | zero =>
    intro g hg
    refine sg_25_2 ⟨rfl, rfl, rfl, rfl, trivial⟩ rfl ?_
    simp (disch := omega) only [hc, cI_lt, if_pos, if_neg]
    exact dk_ex_some
  | succ j ih =>
    intro g hg
    refine sg_25_2 ⟨rfl, rfl, rfl, rfl, trivial⟩ rfl ?_
    obtain ⟨hon, hb⟩ := hr g (by omega)
    simp (disch := omega) only [hc, cI_lt, cI_nat, cI_inj, cI_add, hon, if_pos, if_neg]
    by_cases h : N 18 (4 * p + g) = 1
    · simp (disch := omega) only [dk_nx, if_pos, if_neg]
      exact dk_ex_some
    · simp (disch := omega) only [dk_nx, if_pos, if_neg]
      exact dk_ex_run (ih (g + 1) (by omega))
theorem cl_gof (hG : GrC N m p) {g : Nat} (hg : g ≤ N 1 p) : dk_Ev L (25, 0, [(0, vR (2, p, 0)), (1, vI (cI g))], [], (m, l, .inl (), k, q)) ((m, l, .inl (), k, q), .inl (some (vI (cJ (dk_nx N p (N 1 p - g) g))))) := by
  refine sg_25_0 ⟨rfl, rfl, rfl, rfl, trivial⟩ rfl (dk_ex_run ?_)
  exact dk_ev_ls (cl_gof_loop (L := L) (l := l) (k := k) (q := q) hG (N 1 p - g) g (by omega)) ⟨rfl, rfl, rfl, rfl, trivial⟩ rfl
theorem md_nx_loop (hp : p < 16) (hG : GrM N m p) : ∀ (j g : Nat), g + j = N 1 p → dk_Ev L (80, 2, [(3, vI (cI g)), (0, vR (12, 0, 0)), (1, vI (cI p))], [], (m, l, .inl (), k, q)) ((m, l, .inl (), k, q), .inl (some (vI (cJ (dk_nx N p j g))))) := by
  obtain ⟨hc, h1, hr⟩ := hG
  intro j
  induction j with
  | zero =>
    intro g hg
    refine sg_80_2 ⟨rfl, rfl, rfl, rfl, rfl, rfl, trivial⟩ rfl ?_
    simp (disch := omega) only [cI_lt, cI_nat, hc, if_pos, if_neg]
    exact dk_ex_some
  | succ j ih =>
    intro g hg
    refine sg_80_2 ⟨rfl, rfl, rfl, rfl, rfl, rfl, trivial⟩ rfl ?_
    obtain ⟨hon, hb⟩ := hr g (by omega)
    simp (disch := omega) only [cI_lt, cI_nat, hc, cI_mul, cI_add, cI_inj, hon, if_pos, if_neg]
    by_cases h : N 18 (4 * p + g) = 1
    · simp (disch := omega) only [dk_nx, if_pos, if_neg]
      exact dk_ex_some
    · simp (disch := omega) only [dk_nx, if_pos, if_neg]
      exact dk_ex_run (ih (g + 1) (by omega))
theorem md_nx (hp : p < 16) (hG : GrM N m p) {g : Nat} (hg : g ≤ N 1 p) : dk_Ev L (80, 0, [(0, vR (12, 0, 0)), (1, vI (cI p)), (2, vI (cI g))], [], (m, l, .inl (), k, q)) ((m, l, .inl (), k, q), .inl (some (vI (cJ (dk_nx N p (N 1 p - g) g))))) := by
  refine sg_80_0 ⟨rfl, rfl, rfl, rfl, rfl, rfl, trivial⟩ rfl (dk_ex_run ?_)
  exact dk_ev_ls (md_nx_loop (L := L) (l := l) (k := k) (q := q) hp hG (N 1 p - g) g (by omega)) ⟨rfl, rfl, rfl, rfl, rfl, rfl, trivial⟩ rfl
end
