/-! step, process, waiting, pair on both sides -/
section
variable {L : Nat} {N : dkNN} {V : dkVV} {E : dkEE} {W : dkWW} {T n : Nat}
theorem PM_thr' {m : dkM} {z : Int32} (h : PM N V E W T m) : PM N V E W T (dk_up m (12, 0, 0) 0 z) ∧ FrM m (dk_up m (12, 0, 0) 0 z) := ⟨PM_thr h, FrM_up ⟨Nat.le_of_ble_eq_true rfl, Nat.ne_of_beq_eq_false rfl⟩ FrM_refl⟩
theorem FrM_tr {m m' m'' : dkM} (h : FrM m m') (h' : FrM m' m'') : FrM m m'' := fun a f ha => by rw [h' a f ha, h a f ha]
theorem FrC_tr {m m' m'' : dkM} (h : FrC m m') (h' : FrC m' m'') : FrC m m'' := fun a f ha => by rw [h' a f ha, h a f ha]
/-- step -/
theorem bo_step (x : Int32) (h : IV N E W T n) (hn : n + 1 ≤ 512) : dk_Bo L 51 [(0, vR (0, 0, 0)), (1, vI x), (2, vR (14, 0, 0))] 94 [(0, vR (12, 0, 0)), (1, vI x)] N V E W T n dk_Ri := by
  rcases cI_cases x with hx | ⟨p, hp0, rfl⟩
  · refine bo_ref h hn (cl_ref (c := 1) (by decide) (fun m l k q hq hC => sg_51_0 ⟨rfl, rfl, rfl, rfl, rfl, rfl, trivial⟩ rfl (dk_ex_run (kc_51_4_1 (sg_50_0 ⟨rfl, rfl, rfl, rfl, trivial⟩ rfl ?_) (sg_51_13 trivial rfl dk_ex_some))))) (mo_1 (fun m l k q hM => sg_94_0 ⟨rfl, rfl, rfl, rfl, trivial⟩ rfl ?_))
    · simp only [↓reduceIte, hx, hq]; exact dk_ex_some
    · simp only [↓reduceIte, hx, dk_up_eq, n10]; exact dk_ex_some
  by_cases hp : p < 16
  rotate_left
  · have hp2 : 15 < p := by omega
    refine bo_ref h hn (cl_ref (c := 1) (by decide) (fun m l k q hq hC => sg_51_0 ⟨rfl, rfl, rfl, rfl, rfl, rfl, trivial⟩ rfl (dk_ex_run (kc_51_4_1 (sg_50_0 ⟨rfl, rfl, rfl, rfl, trivial⟩ rfl ?_) (sg_51_13 trivial rfl dk_ex_some))))) (mo_1 (fun m l k q hM => sg_94_0 ⟨rfl, rfl, rfl, rfl, trivial⟩ rfl ?_))
    · simp (disch := omega) only [↓reduceIte, cI_lt, Nat.not_lt_zero, hp, hq]; exact dk_ex_some
    · simp (disch := omega) only [↓reduceIte, cI_lt, Nat.not_lt_zero, hp2, dk_up_eq, n10]; exact dk_ex_some
  have hp2 : ¬ 15 < p := by omega
  have b0 : N 0 p ≤ 1 := (h.1 p hp).1
  by_cases h0 : N 0 p = 0
  · refine bo_ref h hn (cl_ref (c := 2) (by decide) (fun m l k q hq hC => sg_51_0 ⟨rfl, rfl, rfl, rfl, rfl, rfl, trivial⟩ rfl (dk_ex_run (kc_51_4_2 (sg_50_0 ⟨rfl, rfl, rfl, rfl, trivial⟩ rfl ?_) (sg_51_16 trivial rfl dk_ex_some))))) (mo_1 (fun m l k q hM => sg_94_0 ⟨rfl, rfl, rfl, rfl, trivial⟩ rfl ?_))
    · have e3 : m (2, p, 0) 3 = cI 0 := by rw [(hC.1 p hp).2.1, h0]
      simp (disch := omega) only [↓reduceIte, cI_lt, cI_nat, le_F, or_self, Nat.not_lt_zero, hp, e3, hq]; exact dk_ex_some
    · have f2 : m (16, 2, 0) p = cI 0 := by rw [(hM.1 p hp).1, h0]
      simp (disch := omega) only [↓reduceIte, cI_lt, cI_nat, le_F, or_self, Nat.not_lt_zero, hp2, f2, dk_up_eq, n20]; exact dk_ex_some
  have h0 : N 0 p = 1 := by omega
  obtain ⟨N', V', E', W', ⟨sc, sm⟩, h', -⟩ := step_all (L := L) (V := V) hp h
  refine ⟨N', V', E', W', T, 0, (cI (dk_an N' p)).toInt64, some (vI (cI (dk_an N' p))), fun m l k q hq hC => ?_, fun m l k q hM => ?_, IV_up h' (by omega) hn, _, rfl, rfl⟩
  · obtain ⟨m', e, hC', hF⟩ := sc m l k q hC
    refine ⟨m', _, q, sg_51_0 ⟨rfl, rfl, rfl, rfl, rfl, rfl, trivial⟩ rfl (dk_ex_run (kv_51_4 (h' := (m', l, .inl (), k, q)) (sg_50_0 ⟨rfl, rfl, rfl, rfl, trivial⟩ rfl ?_) (sg_51_7 trivial rfl dk_ex_some))), hC', hF, by omega, fun _ => rfl⟩
    have e3 : m (2, p, 0) 3 = cI 1 := by rw [(hC.1 p hp).2.1, h0]
    simp (disch := omega) only [↓reduceIte, cI_lt, cI_nat, le_F, or_self, Nat.not_lt_zero, hp, e3, n10]
    exact dk_ex_run (kv_50_6 e (sg_50_9 trivial rfl dk_ex_some))
  · obtain ⟨m', e, hM', hF⟩ := sm _ l k q (PM_thr (z := cI 0) hM)
    refine ⟨m', sg_94_0 ⟨rfl, rfl, rfl, rfl, trivial⟩ rfl ?_, hM', FrM_tr (PM_thr' hM).2 hF.1, by rw [hF.2, dk_up_eq]⟩
    have f2 : m (16, 2, 0) p = cI 1 := by rw [(hM.1 p hp).1, h0]
    simp (disch := omega) only [↓reduceIte, cI_lt, cI_nat, le_F, or_self, Nat.not_lt_zero, hp2, f2, dk_up_eq, n10]
    exact dk_ex_run (kv_94_10 e (sg_94_13 trivial rfl dk_ex_some))
/-- process -/
theorem bo_process (x w : Int32) (h : IV N E W T n) (hn : n + 1 ≤ 512) : dk_Bo L 64 [(0, vR (0, 0, 0)), (1, vI x), (2, vI w), (3, vR (14, 0, 0))] 99 [(0, vR (12, 0, 0)), (1, vI x), (2, vI w)] N V E W T n dk_Ri := by
  rcases cI_cases x with hx | ⟨p, hp0, rfl⟩
  · refine bo_ref h hn (cl_ref (c := 1) (by decide) (fun m l k q hq hC => sg_64_0 ⟨rfl, rfl, rfl, rfl, rfl, rfl, rfl, rfl, trivial⟩ rfl ?_)) (mo_1 (fun m l k q hM => sg_99_0 ⟨rfl, rfl, rfl, rfl, rfl, rfl, trivial⟩ rfl ?_))
    · simp only [↓reduceIte, hx, hq]; exact dk_ex_some
    · simp only [↓reduceIte, hx, dk_up_eq, n10]; exact dk_ex_some
  by_cases hp : p < 16
  rotate_left
  · have hp2 : 15 < p := by omega
    refine bo_ref h hn (cl_ref (c := 1) (by decide) (fun m l k q hq hC => sg_64_0 ⟨rfl, rfl, rfl, rfl, rfl, rfl, rfl, rfl, trivial⟩ rfl ?_)) (mo_1 (fun m l k q hM => sg_99_0 ⟨rfl, rfl, rfl, rfl, rfl, rfl, trivial⟩ rfl ?_))
    · simp (disch := omega) only [↓reduceIte, cI_lt, Nat.not_lt_zero, hp, hq]; exact dk_ex_some
    · simp (disch := omega) only [↓reduceIte, cI_lt, Nat.not_lt_zero, hp2, dk_up_eq, n10]; exact dk_ex_some
  have hp2 : ¬ 15 < p := by omega
  have b := h.1 p hp
  have b0 : N 0 p ≤ 1 := b.1
  have b4 : N 4 p ≤ 3 := b.2.2.2.2.1
  by_cases h0 : N 0 p = 0
  · refine bo_ref h hn (cl_ref (c := 2) (by decide) (fun m l k q hq hC => sg_64_0 ⟨rfl, rfl, rfl, rfl, rfl, rfl, rfl, rfl, trivial⟩ rfl ?_)) (mo_1 (fun m l k q hM => sg_99_0 ⟨rfl, rfl, rfl, rfl, rfl, rfl, trivial⟩ rfl ?_))
    · have e3 : m (2, p, 0) 3 = cI 0 := by rw [(hC.1 p hp).2.1, h0]
      simp (disch := omega) only [↓reduceIte, cI_lt, cI_nat, le_F, or_self, Nat.not_lt_zero, hp, e3, hq]; exact dk_ex_some
    · have f2 : m (16, 2, 0) p = cI 0 := by rw [(hM.1 p hp).1, h0]
      simp (disch := omega) only [↓reduceIte, cI_lt, cI_nat, le_F, or_self, Nat.not_lt_zero, hp2, f2, dk_up_eq, n20]; exact dk_ex_some
  have h0 : N 0 p = 1 := by omega
  have hc3 : ∀ (m : dkM), PC N V E W T m → m (2, p, 0) 3 = cI 1 := fun m hC => by rw [(hC.1 p hp).2.1, h0]
  have hm2 : ∀ (m : dkM), PM N V E W T m → m (16, 2, 0) p = cI 1 := fun m hM => by rw [(hM.1 p hp).1, h0]
  rcases cI_cases w with hw | ⟨z, hz0, rfl⟩
  · refine bo_ref h hn (cl_ref (c := 1) (by decide) (fun m l k q hq hC => sg_64_0 ⟨rfl, rfl, rfl, rfl, rfl, rfl, rfl, rfl, trivial⟩ rfl ?_)) (mo_2 (fun m l k q hM => sg_99_0 ⟨rfl, rfl, rfl, rfl, rfl, rfl, trivial⟩ rfl ?_))
    · simp (disch := omega) only [↓reduceIte, cI_lt, cI_nat, le_F, or_self, Nat.not_lt_zero, hp, hc3 m hC, n10, cI_neg_ne hw, hq]; exact dk_ex_some
    · simp (disch := omega) only [↓reduceIte, cI_lt, cI_nat, le_F, or_self, Nat.not_lt_zero, hp2, hm2 m hM, dk_up_eq, n10, hw]; exact dk_ex_some
  by_cases hz : z ≤ 6
  rotate_left
  · have z6 : 6 < z := by omega
    have z0 : ¬ z = 0 := by omega
    have z1 : ¬ z = 1 := by omega
    have z2 : ¬ z = 2 := by omega
    have z3 : ¬ z = 3 := by omega
    have z4 : ¬ z = 4 := by omega
    have z5 : ¬ z = 5 := by omega
    have z7 : ¬ z = 6 := by omega
    refine bo_ref h hn (cl_ref (c := 1) (by decide) (fun m l k q hq hC => sg_64_0 ⟨rfl, rfl, rfl, rfl, rfl, rfl, rfl, rfl, trivial⟩ rfl ?_)) (mo_2 (fun m l k q hM => sg_99_0 ⟨rfl, rfl, rfl, rfl, rfl, rfl, trivial⟩ rfl ?_))
    · simp (disch := omega) only [↓reduceIte, cI_lt, cI_nat, cI_inj, le_F, or_self, Nat.not_lt_zero, hp, hc3 m hC, Nat.reduceEqDiff, z0, z1, z2, z3, z4, z5, z7, hq]; exact dk_ex_some
    · simp (disch := omega) only [↓reduceIte, cI_lt, cI_nat, le_F, or_self, Nat.not_lt_zero, hp2, hm2 m hM, dk_up_eq, n10, z6]; exact dk_ex_some
  have fin : ∀ b : Int32, (∀ (m : dkM) (l : Int64) (k q : Nat), PC N V E W T m → dk_Ev L (64, 0, [(0, vR (0, 0, 0)), (1, vI (cI p)), (2, vI (cI z)), (3, vR (14, 0, 0))], [], (m, l, .inl (), k, q)) ((m, b.toInt64, .inl (), k, q), .inl (some (vI (cI 0))))) → (∀ (m : dkM) (l : Int64) (k q : Nat), PM N V E W T m → dk_Ev L (99, 0, [(0, vR (12, 0, 0)), (1, vI (cI p)), (2, vI (cI z))], [], (m, l, .inl (), k, q)) ((dk_up m (12, 0, 0) 0 (cI 0), l, .inl (), k, q), .inl (some (vI b)))) → dk_Bo L 64 [(0, vR (0, 0, 0)), (1, vI (cI p)), (2, vI (cI z)), (3, vR (14, 0, 0))] 99 [(0, vR (12, 0, 0)), (1, vI (cI p)), (2, vI (cI z))] N V E W T n dk_Ri := fun b e1 e2 =>
    ⟨N, V, E, W, T, 0, b.toInt64, some (vI b), fun m l k q hq hC => ⟨m, _, q, e1 m l k q hC, hC, FrC_refl, by omega, fun _ => rfl⟩, mo_1 e2, IV_up h (by omega) hn, b, rfl, rfl⟩
  have k4 : ∀ (m : dkM), PC N V E W T m → m (3, p, 0) 0 = cI (N 4 p) := fun m hC => (hC.1 p hp).2.2.2.2.2.1
  have j4 : ∀ (m : dkM), PM N V E W T m → m (13, 3, 0) p = cI (N 4 p) := fun m hM => (hM.1 p hp).2.2.2.2.1
  have hzc : z = 0 ∨ z = 1 ∨ z = 2 ∨ z = 3 ∨ z = 4 ∨ z = 5 ∨ z = 6 := by omega
  rcases hzc with rfl | rfl | rfl | rfl | rfl | rfl | rfl
  · refine fin (cI (N 4 p)) (fun m l k q hC => sg_64_0 ⟨rfl, rfl, rfl, rfl, rfl, rfl, rfl, rfl, trivial⟩ rfl ?_) (fun m l k q hM => sg_99_0 ⟨rfl, rfl, rfl, rfl, rfl, rfl, trivial⟩ rfl ?_)
    · simp (disch := omega) only [↓reduceIte, cI_lt, cI_nat, cI_inj, le_F, or_self, Nat.not_lt_zero, hp, hc3 m hC, Nat.reduceEqDiff, k4 m hC]; exact dk_ex_some
    · simp (disch := omega) only [↓reduceIte, cI_lt, cI_nat, cI_inj, le_F, or_self, Nat.not_lt_zero, hp2, hm2 m hM, dk_up_eq, dk_up_k, Nat.reduceEqDiff, Nat.reduceLT, j4 m hM]; exact dk_ex_some
  · refine fin (cI (N 5 p)) (fun m l k q hC => sg_64_0 ⟨rfl, rfl, rfl, rfl, rfl, rfl, rfl, rfl, trivial⟩ rfl ?_) (fun m l k q hM => sg_99_0 ⟨rfl, rfl, rfl, rfl, rfl, rfl, trivial⟩ rfl ?_)
    · have e : m (3, p, 0) 1 = cI (N 5 p) := (hC.1 p hp).2.2.2.2.2.2.1
      simp (disch := omega) only [↓reduceIte, cI_lt, cI_nat, cI_inj, le_F, or_self, Nat.not_lt_zero, hp, hc3 m hC, Nat.reduceEqDiff, e]; exact dk_ex_some
    · have e : m (13, 4, 0) p = cI (N 5 p) := (hM.1 p hp).2.2.2.2.2.1
      simp (disch := omega) only [↓reduceIte, cI_lt, cI_nat, cI_inj, le_F, or_self, Nat.not_lt_zero, hp2, hm2 m hM, dk_up_eq, dk_up_k, Nat.reduceEqDiff, Nat.reduceLT, e]; exact dk_ex_some
  · refine fin (cJ (N 6 p)) (fun m l k q hC => sg_64_0 ⟨rfl, rfl, rfl, rfl, rfl, rfl, rfl, rfl, trivial⟩ rfl ?_) (fun m l k q hM => sg_99_0 ⟨rfl, rfl, rfl, rfl, rfl, rfl, trivial⟩ rfl ?_)
    · have e : m (3, p, 0) 2 = cJ (N 6 p) := (hC.1 p hp).2.2.2.2.2.2.2.1
      simp (disch := omega) only [↓reduceIte, cI_lt, cI_nat, cI_inj, le_F, or_self, Nat.not_lt_zero, hp, hc3 m hC, Nat.reduceEqDiff, e]; exact dk_ex_some
    · have e : m (13, 5, 0) p = cJ (N 6 p) := (hM.1 p hp).2.2.2.2.2.2.1
      simp (disch := omega) only [↓reduceIte, cI_lt, cI_nat, cI_inj, le_F, or_self, Nat.not_lt_zero, hp2, hm2 m hM, dk_up_eq, dk_up_k, Nat.reduceEqDiff, Nat.reduceLT, e]; exact dk_ex_some
  · refine fin (cI (N 3 p)) (fun m l k q hC => sg_64_0 ⟨rfl, rfl, rfl, rfl, rfl, rfl, rfl, rfl, trivial⟩ rfl ?_) (fun m l k q hM => sg_99_0 ⟨rfl, rfl, rfl, rfl, rfl, rfl, trivial⟩ rfl ?_)
    · have e : m (2, p, 0) 7 = cI (N 3 p) := (hC.1 p hp).2.2.2.2.1
      simp (disch := omega) only [↓reduceIte, cI_lt, cI_nat, cI_inj, le_F, or_self, Nat.not_lt_zero, hp, hc3 m hC, Nat.reduceEqDiff, e]; exact dk_ex_some
    · have e : m (13, 6, 0) p = cI (N 3 p) := (hM.1 p hp).2.2.2.1
      simp (disch := omega) only [↓reduceIte, cI_lt, cI_nat, cI_inj, le_F, or_self, Nat.not_lt_zero, hp2, hm2 m hM, dk_up_eq, dk_up_k, Nat.reduceEqDiff, Nat.reduceLT, e]; exact dk_ex_some
  · by_cases h3 : N 4 p = 3
    · refine fin (cI (N 14 p)) (fun m l k q hC => sg_64_0 ⟨rfl, rfl, rfl, rfl, rfl, rfl, rfl, rfl, trivial⟩ rfl ?_) (fun m l k q hM => sg_99_0 ⟨rfl, rfl, rfl, rfl, rfl, rfl, trivial⟩ rfl ?_)
      · have e : m (3, p, 0) 3 = cI (N 14 p) := ((hC.1 p hp).2.2.2.2.2.2.2.2.2.2.2.2 (Or.inl h3)).1
        simp (disch := omega) only [↓reduceIte, cI_lt, cI_nat, cI_inj, le_F, or_self, Nat.not_lt_zero, hp, hc3 m hC, Nat.reduceEqDiff, k4 m hC, h3, e]; exact dk_ex_some
      · have e : m (13, 7, 0) p = cI (N 14 p) := ((hM.1 p hp).2.2.2.2.2.2.2.2.2.2.2.1 h3).1
        simp (disch := omega) only [↓reduceIte, cI_lt, cI_nat, cI_inj, le_F, or_self, Nat.not_lt_zero, hp2, hm2 m hM, dk_up_eq, dk_up_k, Nat.reduceEqDiff, Nat.reduceLT, Nat.lt_irrefl, j4 m hM, h3, e]; exact dk_ex_some
    · refine fin (cJ 0) (fun m l k q hC => sg_64_0 ⟨rfl, rfl, rfl, rfl, rfl, rfl, rfl, rfl, trivial⟩ rfl ?_) (fun m l k q hM => sg_99_0 ⟨rfl, rfl, rfl, rfl, rfl, rfl, trivial⟩ rfl ?_)
      · simp (disch := omega) only [↓reduceIte, cI_lt, cI_nat, cI_inj, le_F, or_self, Nat.not_lt_zero, hp, hc3 m hC, Nat.reduceEqDiff, k4 m hC, h3]; exact dk_ex_some
      · simp (disch := omega) only [↓reduceIte, cI_lt, cI_nat, cI_inj, le_F, or_self, Nat.not_lt_zero, hp2, hm2 m hM, dk_up_eq, dk_up_k, Nat.reduceEqDiff, Nat.reduceLT, Nat.lt_irrefl, j4 m hM, h3]; exact dk_ex_some
  · by_cases h3 : N 4 p = 3
    · refine fin (cI (N 15 p)) (fun m l k q hC => sg_64_0 ⟨rfl, rfl, rfl, rfl, rfl, rfl, rfl, rfl, trivial⟩ rfl ?_) (fun m l k q hM => sg_99_0 ⟨rfl, rfl, rfl, rfl, rfl, rfl, trivial⟩ rfl ?_)
      · have e : m (3, p, 0) 4 = cI (N 15 p) := ((hC.1 p hp).2.2.2.2.2.2.2.2.2.2.2.2 (Or.inl h3)).2.1
        simp (disch := omega) only [↓reduceIte, cI_lt, cI_nat, cI_inj, le_F, or_self, Nat.not_lt_zero, hp, hc3 m hC, Nat.reduceEqDiff, k4 m hC, h3, e]; exact dk_ex_some
      · have e : m (13, 8, 0) p = cI (N 15 p) := ((hM.1 p hp).2.2.2.2.2.2.2.2.2.2.2.1 h3).2
        simp (disch := omega) only [↓reduceIte, cI_lt, cI_nat, cI_inj, le_F, or_self, Nat.not_lt_zero, hp2, hm2 m hM, dk_up_eq, dk_up_k, Nat.reduceEqDiff, Nat.reduceLT, Nat.lt_irrefl, j4 m hM, h3, e]; exact dk_ex_some
    · refine fin (cJ 0) (fun m l k q hC => sg_64_0 ⟨rfl, rfl, rfl, rfl, rfl, rfl, rfl, rfl, trivial⟩ rfl ?_) (fun m l k q hM => sg_99_0 ⟨rfl, rfl, rfl, rfl, rfl, rfl, trivial⟩ rfl ?_)
      · simp (disch := omega) only [↓reduceIte, cI_lt, cI_nat, cI_inj, le_F, or_self, Nat.not_lt_zero, hp, hc3 m hC, Nat.reduceEqDiff, k4 m hC, h3]; exact dk_ex_some
      · simp (disch := omega) only [↓reduceIte, cI_lt, cI_nat, cI_inj, le_F, or_self, Nat.not_lt_zero, hp2, hm2 m hM, dk_up_eq, dk_up_k, Nat.reduceEqDiff, Nat.reduceLT, Nat.lt_irrefl, j4 m hM, h3]; exact dk_ex_some
  · by_cases h3 : N 4 p = 3
    · refine fin (V 1 p) (fun m l k q hC => sg_64_0 ⟨rfl, rfl, rfl, rfl, rfl, rfl, rfl, rfl, trivial⟩ rfl ?_) (fun m l k q hM => sg_99_0 ⟨rfl, rfl, rfl, rfl, rfl, rfl, trivial⟩ rfl ?_)
      · have e : m (3, p, 0) 5 = V 1 p := ((hC.1 p hp).2.2.2.2.2.2.2.2.2.2.2.2 (Or.inl h3)).2.2
        simp (disch := omega) only [↓reduceIte, cI_lt, cI_nat, cI_inj, le_F, or_self, Nat.not_lt_zero, hp, hc3 m hC, Nat.reduceEqDiff, k4 m hC, h3, e]; exact dk_ex_some
      · have e : m (13, 9, 0) p = V 1 p := (hM.1 p hp).2.2.2.2.2.2.2.2.2.2.2.2 (Or.inl h3)
        simp (disch := omega) only [↓reduceIte, cI_lt, cI_nat, cI_inj, le_F, or_self, Nat.not_lt_zero, hp2, hm2 m hM, dk_up_eq, dk_up_k, Nat.reduceEqDiff, Nat.reduceLT, Nat.lt_irrefl, j4 m hM, h3, e]; exact dk_ex_some
    · refine fin (cI 0) (fun m l k q hC => sg_64_0 ⟨rfl, rfl, rfl, rfl, rfl, rfl, rfl, rfl, trivial⟩ rfl ?_) (fun m l k q hM => sg_99_0 ⟨rfl, rfl, rfl, rfl, rfl, rfl, trivial⟩ rfl ?_)
      · simp (disch := omega) only [↓reduceIte, cI_lt, cI_nat, cI_inj, le_F, or_self, Nat.not_lt_zero, hp, hc3 m hC, Nat.reduceEqDiff, k4 m hC, h3]; exact dk_ex_some
      · simp (disch := omega) only [↓reduceIte, cI_lt, cI_nat, cI_inj, le_F, or_self, Nat.not_lt_zero, hp2, hm2 m hM, dk_up_eq, dk_up_k, Nat.reduceEqDiff, Nat.reduceLT, Nat.lt_irrefl, j4 m hM, h3]; exact dk_ex_some
end
