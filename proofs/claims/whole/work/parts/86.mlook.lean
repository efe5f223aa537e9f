/-! the reference publishes and looks -/
section
variable {L : Nat} {N : dkNN} {V : dkVV} {E : dkEE} {W : dkWW} {T : Nat} {m : dkM} {l : Int64} {k q : Nat} {p : Nat}
theorem cJ0_lt : (cJ 0 < cI 0) = True := eq_true (by decide)
theorem GrM_up {a : dkI} {f : Nat} {x : Int32} (hG : GrM N m p) (h1 : a ≠ (13, 10, 0)) (h2 : a ≠ (16, 14, 0)) : GrM N (dk_up m a f x) p := by
  obtain ⟨g1, g2, g3⟩ := hG
  refine ⟨?_, g2, fun g hg => ⟨?_, (g3 g hg).2⟩⟩
  · rw [dk_up, if_neg (fun e => h1 e.1.symm)]; exact g1
  · rw [dk_up, if_neg (fun e => h2 e.1.symm)]; exact (g3 g hg).1
theorem md_83 {j : Nat} (hp : p < 16) (hG : GrM N m p) (hj : dk_nx N p (N 1 p) 0 = j + 1) : dk_Ev L (83, 0, [(0, vR (12, 0, 0)), (1, vI (cI p))], [], (m, l, .inl (), k, q)) ((dk_up (dk_up (dk_up (dk_up m (13, 6, 0) p (cI 1)) (13, 17, 0) p (cI j)) (13, 18, 0) p (cI 0)) (16, 19, 0) p (cI 1), l, .inl (), k, q), .inl none) := by
  have hg := md_nx (L := L) (l := l) (k := k) (q := q) hp (GrM_up (f := p) (x := cI 1) hG (a := (13, 6, 0)) (by simp) (by simp)) (Nat.zero_le _)
  rw [Nat.sub_zero, hj] at hg
  refine sg_83_0 ⟨rfl, rfl, rfl, rfl, trivial⟩ rfl ?_
  simp (disch := omega) only [↓reduceIte, cI_lt, cI_nat, le_F, Nat.not_lt_zero, or_self]
  refine dk_ex_run (kv_83_15 hg (sg_83_18 ⟨rfl, rfl, rfl, rfl, trivial⟩ rfl ?_))
  simp (disch := omega) only [↓reduceIte, cI_lt, cI_nat, le_F, Nat.not_lt_zero, or_self, cJ_succ]
  exact dk_ex_some
/-- the heap behind an entry added -/
def dk_am (m : dkM) (E : dkEE) (c a b : Nat) : dkM := dk_up (dk_up (dk_up m (13, 24, 0) (64 * c + (E c).length) (cI a)) (13, 25, 0) (64 * c + (E c).length) (cI b)) (13, 23, 0) c (cI ((E c).length + 1))
theorem md_84_pre {y : dkY} (hp : p < 16) (hM : PM N V E W T m) (hB : BD N E W T) (h3 : N 3 p = 0) (hr : (E (N 17 (4 * p + N 8 p))).length ≤ 63) (hk : dk_Ev L (84, 89, [(2, vI (cI (N 17 (4 * p + N 8 p)))), (0, vR (12, 0, 0)), (1, vI (cI p))], [vI (cI (N 8 p + 1)), vI (cI p), vR (12, 0, 0), vI (cI p), vR (13, 17, 0)], (dk_am m E (N 17 (4 * p + N 8 p)) (4 * p + N 8 p) (N 5 p), l, .inl (), k, q)) y) : dk_Ev L (84, 0, [(0, vR (12, 0, 0)), (1, vI (cI p))], [], (m, l, .inl (), k, q)) y := by
  have hP := hM.1 p hp
  have hbp := hB.1 p hp
  have s1 : m (13, 4, 0) p = cI (N 5 p) := hP.2.2.2.2.2.1
  have c8 : m (13, 17, 0) p = cI (N 8 p) := hP.2.2.2.2.2.2.2.2.1 (by omega)
  have g8 : N 8 p < 4 := by have := hbp.2.2.2.2.2.2.2.2.1 (by omega); have := hbp.2.1; omega
  have g1 : m (13, 12, 0) (4 * p + N 8 p) = cI (N 17 (4 * p + N 8 p)) := (hM.2.1 (4 * p + N 8 p) (by omega)).2.1
  have hc : N 17 (4 * p + N 8 p) < 8 := (hB.2.1 (4 * p + N 8 p) (by omega)).2.1
  have z : m (13, 23, 0) (N 17 (4 * p + N 8 p)) = cI (E (N 17 (4 * p + N 8 p))).length := (hM.2.2.1 _ hc).1
  refine sg_84_0 ⟨rfl, rfl, rfl, rfl, trivial⟩ rfl ?_
  simp (disch := omega) only [↓reduceIte, c8, s1, g1, z, cI_lt, cI_nat, cI_add, cI_mul, dk_up_eq, dk_up_k, dk_up_i, le_F, Nat.not_lt_zero, or_self]
  exact dk_ex_run hk
theorem md_84n {j : Nat} (hp : p < 16) (hM : PM N V E W T m) (hB : BD N E W T) (h3 : N 3 p = 0) (hr : (E (N 17 (4 * p + N 8 p))).length ≤ 63) (hj : dk_nx N p (N 1 p - (N 8 p + 1)) (N 8 p + 1) = j + 1) : ∃ m', dk_Ev L (84, 0, [(0, vR (12, 0, 0)), (1, vI (cI p))], [], (m, l, .inl (), k, q)) ((m', l, .inl (), k, q), .inl none) ∧ PM (nQ N p 0 j 0 0) V (eU E (N 17 (4 * p + N 8 p)) (E (N 17 (4 * p + N 8 p)) ++ [(4 * p + N 8 p, N 5 p)])) W T m' ∧ FrS m m' := by
  have hbp := hB.1 p hp
  have g8 : N 8 p < N 1 p := (hbp.2.2.2.2.2.2.2.2.1 (by omega)).1
  have hl := hbp.2.1
  have hG : GrM N (dk_am m E (N 17 (4 * p + N 8 p)) (4 * p + N 8 p) (N 5 p)) p := GrM_up (GrM_up (GrM_up (GrM_of hp hM hB) (by simp) (by simp)) (by simp) (by simp)) (by simp) (by simp)
  have hg := md_nx (L := L) (l := l) (k := k) (q := q) hp hG (g := N 8 p + 1) (by omega)
  rw [hj] at hg
  refine ⟨dk_up (dk_am m E (N 17 (4 * p + N 8 p)) (4 * p + N 8 p) (N 5 p)) (13, 17, 0) p (cI j), md_84_pre hp hM hB h3 hr (kv_84_89 hg (sg_84_92 ⟨rfl, rfl, rfl, rfl, trivial⟩ rfl ?_)), ?_, ?_⟩
  · have hjb : j < 4 := by have := dk_nx_le (N := N) (p := p) (N 1 p - (N 8 p + 1)) (N 8 p + 1); omega
    simp (disch := omega) only [↓reduceIte, cI_lt, cI_nat, le_F, Nat.not_lt_zero, or_self, cJ_succ, dk_up_eq]
    exact dk_ex_some
  · have c7 : m (13, 6, 0) p = cI (N 3 p) := (hM.1 p hp).2.2.2.1
    refine PM_pr (PM_app (c := N 17 (4 * p + N 8 p)) (a := 4 * p + N 8 p) (b := N 5 p) hM hB hr) (by omega) (fun h => by omega) (by decide) (fun a g h => if_neg (fun e => h ⟨e.2, by simp [e.1]⟩)) ?_ (fun _ => dk_up_eq) (fun h => by omega)
    simp [dk_up, dk_am, c7, h3]
  · unfold dk_am
    repeat (first | refine FrS_up ⟨Nat.le_of_ble_eq_true rfl, Nat.ne_of_beq_eq_false rfl⟩ rfl ?_ | exact FrS_refl)
theorem md_84l {j : Nat} (hp : p < 16) (hM : PM N V E W T m) (hB : BD N E W T) (h3 : N 3 p = 0) (hr : (E (N 17 (4 * p + N 8 p))).length ≤ 63) (hj : dk_nx N p (N 1 p - (N 8 p + 1)) (N 8 p + 1) = 0) (hj0 : dk_nx N p (N 1 p) 0 = j + 1) : ∃ m', dk_Ev L (84, 0, [(0, vR (12, 0, 0)), (1, vI (cI p))], [], (m, l, .inl (), k, q)) ((m', l, .inl (), k, q), .inl none) ∧ PM (nQ N p 1 j 0 1) V (eU E (N 17 (4 * p + N 8 p)) (E (N 17 (4 * p + N 8 p)) ++ [(4 * p + N 8 p, N 5 p)])) W T m' ∧ FrS m m' := by
  have hbp := hB.1 p hp
  have g8 : N 8 p < N 1 p := (hbp.2.2.2.2.2.2.2.2.1 (by omega)).1
  have hl := hbp.2.1
  have hG : GrM N (dk_am m E (N 17 (4 * p + N 8 p)) (4 * p + N 8 p) (N 5 p)) p := GrM_up (GrM_up (GrM_up (GrM_of hp hM hB) (by simp) (by simp)) (by simp) (by simp)) (by simp) (by simp)
  have hg := md_nx (L := L) (l := l) (k := k) (q := q) hp hG (g := N 8 p + 1) (by omega)
  rw [hj] at hg
  refine ⟨dk_up (dk_up (dk_up (dk_up (dk_up (dk_am m E (N 17 (4 * p + N 8 p)) (4 * p + N 8 p) (N 5 p)) (13, 17, 0) p (cJ 0)) (13, 6, 0) p (cI 1)) (13, 17, 0) p (cI j)) (13, 18, 0) p (cI 0)) (16, 19, 0) p (cI 1), md_84_pre hp hM hB h3 hr (kv_84_89 hg (sg_84_92 ⟨rfl, rfl, rfl, rfl, trivial⟩ rfl ?_)), ?_, ?_⟩
  · simp (disch := omega) only [↓reduceIte, cI_lt, cI_nat, le_F, Nat.not_lt_zero, or_self, dk_up_eq, cJ0_lt]
    exact dk_ex_run (kv_84_104 (md_83 hp (GrM_up hG (by simp) (by simp)) hj0) (sg_84_107 trivial rfl dk_ex_some))
  · exact PM_pr (PM_app (c := N 17 (4 * p + N 8 p)) (a := 4 * p + N 8 p) (b := N 5 p) hM hB hr) (by omega) (fun h => by omega) (by decide) (fun a g h => by
      have n6 : ¬ (a = (13, 6, 0) ∧ g = p) := fun e => h ⟨e.2, by simp [e.1]⟩
      have n17 : ¬ (a = (13, 17, 0) ∧ g = p) := fun e => h ⟨e.2, by simp [e.1]⟩
      have n18 : ¬ (a = (13, 18, 0) ∧ g = p) := fun e => h ⟨e.2, by simp [e.1]⟩
      have n19 : ¬ (a = (16, 19, 0) ∧ g = p) := fun e => h ⟨e.2, by simp [e.1]⟩
      rw [dk_up, if_neg n19, dk_up, if_neg n18, dk_up, if_neg n17, dk_up, if_neg n6, dk_up, if_neg n17]; rfl) (by simp [dk_up]) (fun _ => by simp [dk_up]) (fun _ => by simp [dk_up])
  · unfold dk_am
    repeat (first | refine FrS_up ⟨Nat.le_of_ble_eq_true rfl, Nat.ne_of_beq_eq_false rfl⟩ rfl ?_ | exact FrS_refl)
theorem md_85_pre {y : dkY} (hp : p < 16) (hM : PM N V E W T m) (hB : BD N E W T) (h3 : N 3 p = 1) (hl : (E (N 17 (4 * p + N 8 p))).length ≤ N 9 p) (hk : dk_Ev L (85, 160, [(3, vI (cI (N 17 (4 * p + N 8 p)))), (2, vI (cI (4 * p + N 8 p))), (0, vR (12, 0, 0)), (1, vI (cI p))], [vI (cI (N 8 p + 1)), vI (cI p), vR (12, 0, 0), vI (cI p), vR (13, 17, 0)], (dk_up m (13, 18, 0) p (cI 0), l, .inl (), k, q)) y) : dk_Ev L (85, 0, [(0, vR (12, 0, 0)), (1, vI (cI p))], [], (m, l, .inl (), k, q)) y := by
  have hP := hM.1 p hp
  have hbp := hB.1 p hp
  have c8 : m (13, 17, 0) p = cI (N 8 p) := hP.2.2.2.2.2.2.2.2.1 (by omega)
  have c9 : m (13, 18, 0) p = cI (N 9 p) := (hP.2.2.2.2.2.2.2.2.2.1 (by omega)).1
  have b9 : N 9 p ≤ 64 := (hbp.2.2.2.2.2.2.2.2.2.1 (by omega)).1
  have g8 : N 8 p < 4 := by have := hbp.2.2.2.2.2.2.2.2.1 (by omega); have := hbp.2.1; omega
  have g1 : m (13, 12, 0) (4 * p + N 8 p) = cI (N 17 (4 * p + N 8 p)) := (hM.2.1 (4 * p + N 8 p) (by omega)).2.1
  have hc : N 17 (4 * p + N 8 p) < 8 := (hB.2.1 (4 * p + N 8 p) (by omega)).2.1
  have z : m (13, 23, 0) (N 17 (4 * p + N 8 p)) = cI (E (N 17 (4 * p + N 8 p))).length := (hM.2.2.1 _ hc).1
  have hnl : ¬ N 9 p < (E (N 17 (4 * p + N 8 p))).length := by omega
  refine sg_85_0 ⟨rfl, rfl, rfl, rfl, trivial⟩ rfl ?_
  simp (disch := omega) only [↓reduceIte, c8, c9, g1, z, hnl, cI_lt, cI_nat, cI_add, cI_mul, dk_up_eq, dk_up_k, dk_up_i, le_F, Nat.not_lt_zero, or_self]
  exact dk_ex_run hk
theorem md_85n {j : Nat} (hp : p < 16) (hM : PM N V E W T m) (hB : BD N E W T) (h3 : N 3 p = 1) (hlen : (E (N 17 (4 * p + N 8 p))).length ≤ N 9 p) (hj : dk_nx N p (N 1 p - (N 8 p + 1)) (N 8 p + 1) = j + 1) : ∃ m', dk_Ev L (85, 0, [(0, vR (12, 0, 0)), (1, vI (cI p))], [], (m, l, .inl (), k, q)) ((m', l, .inl (), k, q), .inl none) ∧ PM (nQ N p 1 j 0 (N 10 p)) V E W T m' ∧ FrS m m' := by
  have hP := hM.1 p hp
  have hbp := hB.1 p hp
  have c7 : m (13, 6, 0) p = cI (N 3 p) := hP.2.2.2.1
  have c10 : m (16, 19, 0) p = cI (N 10 p) := (hP.2.2.2.2.2.2.2.2.2.1 (by omega)).2
  have g8 : N 8 p < N 1 p := (hbp.2.2.2.2.2.2.2.2.1 (by omega)).1
  have hl := hbp.2.1
  have hg := md_nx (L := L) (l := l) (k := k) (q := q) hp (GrM_up (a := (13, 18, 0)) (f := p) (x := cI 0) (GrM_of hp hM hB) (by simp) (by simp)) (g := N 8 p + 1) (by omega)
  rw [hj] at hg
  refine ⟨dk_up (dk_up m (13, 18, 0) p (cI 0)) (13, 17, 0) p (cI j), md_85_pre hp hM hB h3 hlen (kv_85_160 hg (sg_85_163 ⟨rfl, rfl, rfl, rfl, trivial⟩ rfl ?_)), ?_, ?_⟩
  · have hjb : j < 4 := by have := dk_nx_le (N := N) (p := p) (N 1 p - (N 8 p + 1)) (N 8 p + 1); omega
    simp (disch := omega) only [↓reduceIte, cI_lt, cI_nat, le_F, Nat.not_lt_zero, or_self, cJ_succ, dk_up_eq]
    exact dk_ex_some
  · exact PM_pr hM (by omega) (fun h => by omega) (by decide) (fun a g h => by
      have n17 : ¬ (a = (13, 17, 0) ∧ g = p) := fun e => h ⟨e.2, by simp [e.1]⟩
      have n18 : ¬ (a = (13, 18, 0) ∧ g = p) := fun e => h ⟨e.2, by simp [e.1]⟩
      simp only [dk_up, n17, n18, if_false]) (by simp [dk_up, c7, h3]) (fun _ => by simp [dk_up]) (fun _ => by simp [dk_up, c10])
  · repeat (first | refine FrS_up ⟨Nat.le_of_ble_eq_true rfl, Nat.ne_of_beq_eq_false rfl⟩ rfl ?_ | exact FrS_refl)
theorem md_85s (hp : p < 16) (hM : PM N V E W T m) (hB : BD N E W T) (h3 : N 3 p = 1) (hlen : (E (N 17 (4 * p + N 8 p))).length ≤ N 9 p) (h10 : N 10 p = 1) (hj : dk_nx N p (N 1 p - (N 8 p + 1)) (N 8 p + 1) = 0) : ∃ m', dk_Ev L (85, 0, [(0, vR (12, 0, 0)), (1, vI (cI p))], [], (m, l, .inl (), k, q)) ((m', l, .inl (), k, q), .inl none) ∧ PM (nQ N p 7 0 0 0) V E W T m' ∧ FrS m m' := by
  have hP := hM.1 p hp
  have hbp := hB.1 p hp
  have c10 : m (16, 19, 0) p = cI (N 10 p) := (hP.2.2.2.2.2.2.2.2.2.1 (by omega)).2
  have g8 : N 8 p < N 1 p := (hbp.2.2.2.2.2.2.2.2.1 (by omega)).1
  have hl := hbp.2.1
  have hg := md_nx (L := L) (l := l) (k := k) (q := q) hp (GrM_up (a := (13, 18, 0)) (f := p) (x := cI 0) (GrM_of hp hM hB) (by simp) (by simp)) (g := N 8 p + 1) (by omega)
  rw [hj] at hg
  rw [h10] at c10
  refine ⟨dk_up (dk_up (dk_up m (13, 18, 0) p (cI 0)) (13, 17, 0) p (cJ 0)) (13, 6, 0) p (cI 7), md_85_pre hp hM hB h3 hlen (kv_85_160 hg (sg_85_163 ⟨rfl, rfl, rfl, rfl, trivial⟩ rfl ?_)), ?_, ?_⟩
  · simp (disch := omega) only [↓reduceIte, cI_lt, cI_nat, cI_inj, le_F, Nat.not_lt_zero, or_self, cJ0_lt, dk_up_eq, dk_up_k, c10, Nat.reduceEqDiff]
    exact dk_ex_some
  · exact PM_pr hM (by omega) (fun h => by omega) (by decide) (fun a g h => by
      have n6 : ¬ (a = (13, 6, 0) ∧ g = p) := fun e => h ⟨e.2, by simp [e.1]⟩
      have n17 : ¬ (a = (13, 17, 0) ∧ g = p) := fun e => h ⟨e.2, by simp [e.1]⟩
      have n18 : ¬ (a = (13, 18, 0) ∧ g = p) := fun e => h ⟨e.2, by simp [e.1]⟩
      simp only [dk_up, n6, n17, n18, if_false]) (by simp [dk_up]) (fun h => by omega) (fun h => by omega)
  · repeat (first | refine FrS_up ⟨Nat.le_of_ble_eq_true rfl, Nat.ne_of_beq_eq_false rfl⟩ rfl ?_ | exact FrS_refl)
theorem md_85l {j : Nat} (hp : p < 16) (hM : PM N V E W T m) (hB : BD N E W T) (h3 : N 3 p = 1) (hlen : (E (N 17 (4 * p + N 8 p))).length ≤ N 9 p) (h10 : N 10 p = 0) (hj : dk_nx N p (N 1 p - (N 8 p + 1)) (N 8 p + 1) = 0) (hj0 : dk_nx N p (N 1 p) 0 = j + 1) : ∃ m', dk_Ev L (85, 0, [(0, vR (12, 0, 0)), (1, vI (cI p))], [], (m, l, .inl (), k, q)) ((m', l, .inl (), k, q), .inl none) ∧ PM (nQ N p 1 j 0 1) V E W T m' ∧ FrS m m' := by
  have hP := hM.1 p hp
  have hbp := hB.1 p hp
  have c10 : m (16, 19, 0) p = cI (N 10 p) := (hP.2.2.2.2.2.2.2.2.2.1 (by omega)).2
  have g8 : N 8 p < N 1 p := (hbp.2.2.2.2.2.2.2.2.1 (by omega)).1
  have hl := hbp.2.1
  have hG := GrM_up (a := (13, 18, 0)) (f := p) (x := cI 0) (GrM_of hp hM hB) (by simp) (by simp)
  have hg := md_nx (L := L) (l := l) (k := k) (q := q) hp hG (g := N 8 p + 1) (by omega)
  rw [hj] at hg
  rw [h10] at c10
  refine ⟨dk_up (dk_up (dk_up (dk_up (dk_up (dk_up m (13, 18, 0) p (cI 0)) (13, 17, 0) p (cJ 0)) (13, 6, 0) p (cI 1)) (13, 17, 0) p (cI j)) (13, 18, 0) p (cI 0)) (16, 19, 0) p (cI 1), md_85_pre hp hM hB h3 hlen (kv_85_160 hg (sg_85_163 ⟨rfl, rfl, rfl, rfl, trivial⟩ rfl ?_)), ?_, ?_⟩
  · simp (disch := omega) only [↓reduceIte, cI_lt, cI_nat, le_F, Nat.not_lt_zero, or_self, cJ0_lt, dk_up_eq, dk_up_k, c10]
    exact dk_ex_run (kv_85_204 (md_83 hp (GrM_up hG (by simp) (by simp)) hj0) (sg_85_207 trivial rfl dk_ex_some))
  · exact PM_pr hM (by omega) (fun h => by omega) (by decide) (fun a g h => by
      have n6 : ¬ (a = (13, 6, 0) ∧ g = p) := fun e => h ⟨e.2, by simp [e.1]⟩
      have n17 : ¬ (a = (13, 17, 0) ∧ g = p) := fun e => h ⟨e.2, by simp [e.1]⟩
      have n18 : ¬ (a = (13, 18, 0) ∧ g = p) := fun e => h ⟨e.2, by simp [e.1]⟩
      have n19 : ¬ (a = (16, 19, 0) ∧ g = p) := fun e => h ⟨e.2, by simp [e.1]⟩
      simp only [dk_up, n6, n17, n18, n19, if_false]) (by simp [dk_up]) (fun _ => by simp [dk_up]) (fun _ => by simp [dk_up])
  · repeat (first | refine FrS_up ⟨Nat.le_of_ble_eq_true rfl, Nat.ne_of_beq_eq_false rfl⟩ rfl ?_ | exact FrS_refl)
theorem md_85_at {e : Nat × Nat} (hp : p < 16) (hM : PM N V E W T m) (hB : BD N E W T) (h3 : N 3 p = 1) (he : (E (N 17 (4 * p + N 8 p)))[N 9 p]? = some e) : ∃ m', dk_Ev L (85, 0, [(0, vR (12, 0, 0)), (1, vI (cI p))], [], (m, l, .inl (), k, q)) ((m', l, .inl (), k, q), .inl none) ∧ PM (if e.1 / 4 ≠ p ∧ N 16 e.1 ≠ N 16 (4 * p + N 8 p) then nU (nU (nU (nU N 11 p (e.1 / 4)) 12 p e.2) 13 p (e.1 % 4)) 3 p 2 else nQ N p 1 (N 8 p) (N 9 p + 1) (N 10 p)) V E W T m' ∧ FrS m m' := by
  have hP := hM.1 p hp
  have hbp := hB.1 p hp
  have c7 : m (13, 6, 0) p = cI (N 3 p) := hP.2.2.2.1
  have c8 : m (13, 17, 0) p = cI (N 8 p) := hP.2.2.2.2.2.2.2.2.1 (by omega)
  obtain ⟨c9, c10⟩ := (hP.2.2.2.2.2.2.2.2.2.1 (by omega))
  have b9 : N 9 p ≤ 64 := (hbp.2.2.2.2.2.2.2.2.2.1 (by omega)).1
  have g8 : N 8 p < 4 := by have := hbp.2.2.2.2.2.2.2.2.1 (by omega); have := hbp.2.1; omega
  obtain ⟨g0, g1, -, -⟩ := hM.2.1 (4 * p + N 8 p) (by omega)
  have hgb := hB.2.1 (4 * p + N 8 p) (by omega)
  have hc : N 17 (4 * p + N 8 p) < 8 := hgb.2.1
  have k0 : N 16 (4 * p + N 8 p) ≤ 1 := hgb.1
  have hlen : N 9 p < (E (N 17 (4 * p + N 8 p))).length := (List.getElem?_eq_some_iff.1 he).1
  have hle : (E (N 17 (4 * p + N 8 p))).length ≤ 64 := (hB.2.2.1 _ hc).1
  have z : m (13, 23, 0) (N 17 (4 * p + N 8 p)) = cI (E (N 17 (4 * p + N 8 p))).length := (hM.2.2.1 _ hc).1
  obtain ⟨y0, y1⟩ := (hM.2.2.1 _ hc).2 _ _ he
  obtain ⟨b1, b2⟩ := (hB.2.2.1 _ hc).2 e (List.mem_of_getElem? he)
  have ke : m (13, 11, 0) e.1 = cI (N 16 e.1) := (hM.2.1 e.1 b1).1
  have k1 : N 16 e.1 ≤ 1 := (hB.2.1 e.1 b1).1
  have hrr : e.1 - e.1 / 4 * 4 = e.1 % 4 := by omega
  have key : ∀ y, (if e.1 / 4 ≠ p ∧ N 16 e.1 ≠ N 16 (4 * p + N 8 p) then y = ((dk_up (dk_up (dk_up (dk_up m (13, 20, 0) p (cI (e.1 / 4))) (13, 22, 0) p (cI (e.1 % 4))) (13, 21, 0) p (cI e.2)) (13, 6, 0) p (cI 2), l, .inl (), k, q), .inl none) else y = ((dk_up m (13, 18, 0) p (cI (N 9 p + 1)), l, .inl (), k, q), .inl none)) → dk_Ev L (85, 0, [(0, vR (12, 0, 0)), (1, vI (cI p))], [], (m, l, .inl (), k, q)) y := fun y hy => by
    refine sg_85_0 ⟨rfl, rfl, rfl, rfl, trivial⟩ rfl ?_
    by_cases a1 : e.1 / 4 = p
    · rw [if_neg (fun h => h.1 a1)] at hy
      simp (disch := omega) only [↓reduceIte, c8, c9, g1, z, y0, hlen, a1, cI_lt, cI_nat, cI_inj, cI_add, cI_mul, cI_div, le_F, Nat.not_lt_zero, or_self]
      rw [hy]; exact dk_ex_some
    · by_cases a2 : N 16 e.1 = N 16 (4 * p + N 8 p)
      · rw [if_neg (fun h => h.2 a2)] at hy
        simp (disch := omega) only [↓reduceIte, c8, c9, g0, g1, z, y0, ke, hlen, a1, a2, cI_lt, cI_nat, cI_inj, cI_add, cI_mul, cI_div, le_F, Nat.not_lt_zero, or_self]
        rw [hy]; exact dk_ex_some
      · rw [if_pos ⟨a1, a2⟩] at hy
        simp (disch := omega) only [↓reduceIte, c8, c9, g0, g1, z, y0, y1, ke, hlen, a1, a2, cI_lt, cI_nat, cI_inj, cI_add, cI_mul, cI_sub, hrr, cI_div, dk_up_i, le_F, Nat.not_lt_zero, or_self]
        rw [hy]; exact dk_ex_some
  by_cases a : e.1 / 4 ≠ p ∧ N 16 e.1 ≠ N 16 (4 * p + N 8 p)
  · refine ⟨dk_up (dk_up (dk_up (dk_up m (13, 20, 0) p (cI (e.1 / 4))) (13, 22, 0) p (cI (e.1 % 4))) (13, 21, 0) p (cI e.2)) (13, 6, 0) p (cI 2), key _ (by rw [if_pos a]), ?_, ?_⟩
    · rw [if_pos a]; exact PM_found hM h3
    · repeat (first | refine FrS_up ⟨Nat.le_of_ble_eq_true rfl, Nat.ne_of_beq_eq_false rfl⟩ rfl ?_ | exact FrS_refl)
  · refine ⟨dk_up m (13, 18, 0) p (cI (N 9 p + 1)), key _ (by rw [if_neg a]), ?_, ?_⟩
    · rw [if_neg a]
      exact PM_pr hM (by omega) (fun h => by omega) (by decide) (fun a g h => if_neg (fun e => h ⟨e.2, by simp [e.1]⟩)) (by simp [dk_up, c7, h3]) (fun _ => by simp [dk_up, c8]) (fun _ => by simp [dk_up, c10])
    · exact FrS_up ⟨Nat.le_of_ble_eq_true rfl, Nat.ne_of_beq_eq_false rfl⟩ rfl FrS_refl
end
