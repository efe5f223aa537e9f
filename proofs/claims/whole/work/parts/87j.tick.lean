/-! tick on both sides -/
def dk_Bd (L : Nat) (jc : Nat) (ac : dkL) (jm : Nat) (am : dkL) (N : dkNN) (V : dkVV) (E : dkEE) (W : dkWW) (T n : Nat) : Prop :=
  ∃ N' T' b, (∀ (m : dkM) (l : Int64) (k q : Nat), PC N V E W T m → ∃ m', dk_Ev L (jc, 0, ac, [], (m, l, .inl (), k, q)) ((m', l, .inl (), k, q), .inl (some (vI b))) ∧ PC N' V E W T' m' ∧ FrC m m') ∧ (∀ (m : dkM) (l : Int64) (k q : Nat), PM N V E W T m → ∃ m', dk_Ev L (jm, 0, am, [], (m, l, .inl (), k, q)) ((m', l, .inl (), k, q), .inl (some (vI b))) ∧ PM N' V E W T' m' ∧ FrM m m') ∧ IV N' E W T' (n + 1)
section
variable {L : Nat} {N : dkNN} {V : dkVV} {E : dkEE} {W : dkWW} {T n : Nat}
/-- how many close -/
def dk_dc (N : dkNN) : Nat → Nat → Nat
  | _, 0 => 0
  | i, j + 1 => (if dk_due N i then 1 else 0) + dk_dc N (i + 1) j
theorem dk_dc_le : ∀ (j i : Nat), dk_dc N i j ≤ j
  | 0, _ => Nat.le_refl _
  | j + 1, i => by
    have := dk_dc_le j (i + 1)
    simp only [dk_dc]
    split <;> omega
theorem dk_dc_due {i j : Nat} (h : dk_due N i) : dk_dc N i (j + 1) = 1 + dk_dc N (i + 1) j := by
  rw [dk_dc, if_pos h]
theorem nK_idle {i : Nat} (h : N 3 i = 9) : nK N (i + 1) = nK N i := by
  funext f r
  have hd : ¬ dk_due N i := fun d => d.1 h
  by_cases e : r = i
  · subst e
    simp [nK, h, hd]
  · have : r < i + 1 ↔ r < i := by omega
    simp [nK, this]
theorem nK_go {i : Nat} (h : N 3 i ≠ 9) (hd : ¬ dk_due N i) : nK N (i + 1) = nU (nK N i) 7 i (N 7 i + 1) := by
  funext f r
  by_cases e : r = i
  · subst e
    by_cases e7 : f = 7
    · subst e7
      simp [nK, nU, h]
    · simp [nK, nU, e7, hd]
  · have : r < i + 1 ↔ r < i := by omega
    simp [nK, nU, e, this]
theorem nK_due {i : Nat} (hd : dk_due N i) : nK N (i + 1) = nU (nU (nK N i) 7 i (N 7 i + 1)) 4 i 0 := by
  funext f r
  have h := hd.1
  by_cases e : r = i
  · subst e
    by_cases e7 : f = 7
    · subst e7
      simp [nK, nU, h]
    · by_cases e4 : f = 4
      · subst e4
        simp [nK, nU, hd]
      · simp [nK, nU, e7, e4]
  · have : r < i + 1 ↔ r < i := by omega
    simp [nK, nU, e, this]
theorem PC_tk {i x : Nat} {m : dkM} (hC : PC N V E W T m) : PC (nU N 7 i x) V E W T (dk_up m (2, i, 0) 6 (cI x)) := by
  obtain ⟨h1, h2, h3, h4, h5, h6⟩ := hC
  refine ⟨fun r hr => ?_, fun r hr g hg => ?_, fun c hc => ?_, ?_, ?_, ?_⟩
  · have := h1 r hr
    by_cases e : r = i
    · subst e
      simp [PCp, dk_up, nU] at this ⊢
      simp [this]
      exact this.2.2.2.2.2.2.2.2.2
    · simpa [PCp, dk_up, nU, e] using this
  · simpa [PCg, dk_up, nU] using h2 r hr g hg
  · simpa [PCl, dk_up] using h3 c hc
  · simpa [PCw, dk_up] using h4
  · simpa [dk_up] using h5
  · simpa [PCv, dk_lv, dk_up, nU] using h6
theorem nK_at {i f r : Nat} (h : ¬ r < i) : nK N i f r = N f r := by simp [nK, h]
theorem cl_8_loop (hb : ∀ p, p < 16 → BDp N T p) (hT : T ≤ 600) (h6 : ∀ p, p < 16 → N 4 p = 1 → N 6 p = 0) {l : Int64} {k q : Nat} : ∀ (j i c : Nat), i + j = 16 → c ≤ i → ∀ (m : dkM), PC (nK N i) V E W (T + 1) m → ∃ m', dk_Ev L (8, 14, [(2, vI (cI i)), (1, vI (cI c)), (0, vR (0, 0, 0))], [], (m, l, .inl (), k, q)) ((m', l, .inl (), k, q), .inl (some (vI (cI (c + dk_dc N i j))))) ∧ PC (nK N 16) V E W (T + 1) m' ∧ FrC m m' := by
  intro j
  induction j with
  | zero =>
    intro i c hi hc m hC
    have hi : i = 16 := by omega
    subst hi
    refine ⟨m, sg_8_14 ⟨rfl, rfl, rfl, rfl, rfl, rfl, trivial⟩ rfl ?_, hC, FrC_refl⟩
    simp (disch := omega) only [↓reduceIte, cI_lt, Nat.lt_irrefl]
    exact dk_ex_some
  | succ j ih =>
    intro i c hi hc m hC
    have hi16 : i < 16 := by omega
    obtain ⟨b0, b1, b2, b3, b4, b5, b6, b7, -⟩ := hb i hi16
    have hP := hC.1 i hi16
    have c7 : m (2, i, 0) 7 = cI (N 3 i) := by rw [hP.2.2.2.2.1, nK_at (Nat.lt_irrefl _)]
    have c5 : m (2, i, 0) 5 = cI (N 2 i) := by rw [hP.2.2.2.1, nK_at (Nat.lt_irrefl _)]
    have s0 : m (3, i, 0) 0 = cI (N 4 i) := by rw [hP.2.2.2.2.2.1, nK_at (Nat.lt_irrefl _)]
    by_cases h9 : N 3 i = 9
    · obtain ⟨m', e, r⟩ := ih (i + 1) c (by omega) (by omega) m (by rw [nK_idle h9]; exact hC)
      have hd : ¬ dk_due N i := fun d => d.1 h9
      refine ⟨m', sg_8_14 ⟨rfl, rfl, rfl, rfl, rfl, rfl, trivial⟩ rfl ?_, r⟩
      simp (disch := omega) only [↓reduceIte, cI_lt, cI_nat, cI_add, le_F, or_self, Nat.not_lt_zero, hi16, c7, h9, dk_dc, hd, Nat.zero_add]
      exact dk_ex_run (dk_ev_ls e ⟨rfl, rfl, rfl, rfl, rfl, rfl, trivial⟩ rfl)
    · have c6 : m (2, i, 0) 6 = cI (N 7 i) := by
        have := hP.2.2.2.2.2.2.2.2.1 (by rw [nK_at (Nat.lt_irrefl _)]; exact h9)
        rw [this, nK_at (Nat.lt_irrefl _)]
      have hC1 := PC_tk (i := i) (x := N 7 i + 1) hC
      by_cases hd : dk_due N i
      · obtain ⟨d1, d2, d3, d4⟩ := hd
        have hd : dk_due N i := ⟨d1, d2, d3, d4⟩
        have hC2 := PC_mk (f := i) (x4 := 0) (x6 := 0) hC1 (fun h => by omega)
        have e6 : nU (nU (nK N i) 7 i (N 7 i + 1)) 4 i 0 6 i = 0 := by
          have : nU (nU (nK N i) 7 i (N 7 i + 1)) 4 i 0 6 i = N 6 i := by simp [nU, nK]
          rw [this]; exact h6 i hi16 d4
        have hC3 : PC (nK N (i + 1)) V E W (T + 1) (dk_up (dk_up (dk_up m (2, i, 0) 6 (cI (N 7 i + 1))) (3, i, 0) 0 (cI 0)) (3, i, 0) 2 (cJ 0)) := by
          rw [nK_due hd]
          have := nU_self (N := nU (nU (nK N i) 7 i (N 7 i + 1)) 4 i 0) (f := 6) (i := i)
          rw [e6] at this
          rw [this] at hC2
          exact hC2
        obtain ⟨m', e, r1, r2⟩ := ih (i + 1) (c + 1) (by omega) (by omega) _ hC3
        refine ⟨m', sg_8_14 ⟨rfl, rfl, rfl, rfl, rfl, rfl, trivial⟩ rfl ?_, r1, FrC_tr (FrC_up (Nat.le_of_ble_eq_true rfl) (FrC_up (Nat.le_of_ble_eq_true rfl) (FrC_up (Nat.le_of_ble_eq_true rfl) FrC_refl))) r2⟩
        have hlt : ¬ N 7 i + 1 < N 2 i := by omega
        have hco : c + 1 + dk_dc N (i + 1) j = c + dk_dc N i (j + 1) := by rw [dk_dc_due hd]; omega
        rw [hco] at e
        simp (disch := omega) only [↓reduceIte, cI_lt, cI_nat, cI_inj, cI_add, le_F, or_self, Nat.not_lt_zero, Nat.reduceEqDiff, hi16, c7, h9, c6, c5, s0, d2, d4, hlt, dk_up_eq, dk_up_k, dk_up_f]
        exact dk_ex_run e
      · have hC3 : PC (nK N (i + 1)) V E W (T + 1) (dk_up m (2, i, 0) 6 (cI (N 7 i + 1))) := by
          rw [nK_go h9 hd]; exact hC1
        obtain ⟨m', e, r1, r2⟩ := ih (i + 1) c (by omega) (by omega) _ hC3
        refine ⟨m', sg_8_14 ⟨rfl, rfl, rfl, rfl, rfl, rfl, trivial⟩ rfl ?_, r1, FrC_tr (FrC_up (Nat.le_of_ble_eq_true rfl) FrC_refl) r2⟩
        by_cases a2 : N 2 i = 0
        · simp (disch := omega) only [↓reduceIte, cI_lt, cI_nat, cI_inj, cI_add, le_F, or_self, Nat.not_lt_zero, hi16, c7, h9, c6, c5, a2, dk_up_eq, dk_up_f, dk_dc, hd, Nat.zero_add]
          exact dk_ex_run (dk_ev_ls e ⟨rfl, rfl, rfl, rfl, rfl, rfl, trivial⟩ rfl)
        · by_cases a3 : N 7 i + 1 < N 2 i
          · simp (disch := omega) only [↓reduceIte, cI_lt, cI_nat, cI_inj, cI_add, le_F, or_self, Nat.not_lt_zero, hi16, c7, h9, c6, c5, a2, a3, dk_up_eq, dk_up_f, dk_dc, hd, Nat.zero_add]
            exact dk_ex_run (dk_ev_ls e ⟨rfl, rfl, rfl, rfl, rfl, rfl, trivial⟩ rfl)
          · have a4 : ¬ N 4 i = 1 := fun a4 => hd ⟨h9, a2, by omega, a4⟩
            simp (disch := omega) only [↓reduceIte, cI_lt, cI_nat, cI_inj, cI_add, le_F, or_self, Nat.not_lt_zero, hi16, c7, h9, c6, c5, s0, a2, a3, a4, dk_up_eq, dk_up_k, dk_up_f, dk_dc, hd, Nat.zero_add]
            exact dk_ex_run (dk_ev_ls e ⟨rfl, rfl, rfl, rfl, rfl, rfl, trivial⟩ rfl)
/-- the reference: the clock first, then the marks -/
def nM (N : dkNN) (k : Nat) : dkNN := fun f i => if i < 16 ∧ f = 7 ∧ N 3 i ≠ 9 then N 7 i + 1 else if i < k ∧ f = 4 ∧ dk_due N i then 0 else N f i
theorem nM_no {i : Nat} (hd : ¬ dk_due N i) : nM N (i + 1) = nM N i := by
  funext f r
  by_cases e : r = i
  · subst e
    simp [nM, hd]
  · have : r < i + 1 ↔ r < i := by omega
    simp [nM, this]
theorem nM_due {i : Nat} (hd : dk_due N i) : nM N (i + 1) = nU (nM N i) 4 i 0 := by
  funext f r
  by_cases e : r = i
  · subst e
    by_cases e4 : f = 4
    · subst e4
      simp [nM, nU, hd]
    · simp [nM, nU, e4]
  · have : r < i + 1 ↔ r < i := by omega
    simp [nM, nU, e, this]
theorem PM_clock {m : dkM} (hM : PM N V E W T m) (hb : ∀ p, p < 16 → N 7 p ≤ T) : PM (nM N 0) V E W (T + 1) (dk_up (dk_up m (12, 0, 0) 0 (cI 0)) (12, 0, 0) 1 (cI (T + 1))) := by
  obtain ⟨h1, h2, h3, h4, h5⟩ := hM
  refine ⟨fun r hr => ?_, fun i hi => ?_, fun c hc => ?_, ?_, ?_⟩
  · have := h1 r hr
    have hbr := hb r hr
    have e : T + 1 - (N 7 r + 1) = T - N 7 r := by omega
    simp [PMp, dk_up, nM, hr] at this ⊢
    obtain ⟨b1, b2, b3, b4, b5, b6, b7, b8, b9⟩ := this
    refine ⟨b1, b2, b3, b4, b5, b6, b7, fun h => ?_, b9⟩
    rw [b8 h]
    simp [h]
  · simpa [PMg, dk_up, nM] using h2 i hi
  · simpa [PMl, dk_up] using h3 c hc
  · simpa [PMw, dk_up] using h4
  · simp [dk_up]
theorem PM_m4 {i : Nat} {m : dkM} (hM : PM N V E W T m) : PM (nU N 4 i 0) V E W T (dk_up m (13, 3, 0) i (cI 0)) := by
  obtain ⟨h1, h2, h3, h4, h5⟩ := hM
  refine ⟨fun r hr => ?_, fun i hi => ?_, fun c hc => ?_, ?_, ?_⟩
  · have := h1 r hr
    by_cases e : r = i
    · subst e
      simp [PMp, dk_up, nU] at this ⊢
      grind
    · simpa [PMp, dk_up, nU, e] using this
  · simpa [PMg, dk_up, nU] using h2 i hi
  · simpa [PMl, dk_up] using h3 c hc
  · simpa [PMw, dk_up] using h4
  · simpa [dk_up] using h5
theorem md_95_loop (hb : ∀ p, p < 16 → BDp N T p) (hT : T ≤ 600) (h0 : ∀ p, p < 16 → N 0 p = 0 → N 3 p = 9) {l : Int64} {k q : Nat} : ∀ (j i c : Nat), i + j = 16 → c ≤ i → ∀ (m : dkM), PM (nM N i) V E W (T + 1) m → ∃ m', dk_Ev L (95, 19, [(2, vI (cI i)), (1, vI (cI c)), (0, vR (12, 0, 0))], [], (m, l, .inl (), k, q)) ((m', l, .inl (), k, q), .inl (some (vI (cI (c + dk_dc N i j))))) ∧ PM (nM N 16) V E W (T + 1) m' ∧ FrM m m' := by
  intro j
  induction j with
  | zero =>
    intro i c hi hc m hM
    have hi : i = 16 := by omega
    subst hi
    refine ⟨m, sg_95_19 ⟨rfl, rfl, rfl, rfl, rfl, rfl, trivial⟩ rfl ?_, hM, FrM_refl⟩
    simp (disch := omega) only [↓reduceIte, cI_lt, Nat.lt_irrefl]
    exact dk_ex_some
  | succ j ih =>
    intro i c hi hc m hM
    have hi16 : i < 16 := by omega
    obtain ⟨b0, b1, b2, b3, b4, b5, b6, b7, -⟩ := hb i hi16
    have hP := hM.1 i hi16
    have l0 : m (16, 2, 0) i = cI (N 0 i) := by rw [hP.1]; simp [nM]
    have c7 : m (13, 6, 0) i = cI (N 3 i) := by rw [hP.2.2.2.1]; simp [nM]
    have c5 : m (13, 15, 0) i = cI (N 2 i) := by rw [hP.2.2.1]; simp [nM]
    have s0 : m (13, 3, 0) i = cI (N 4 i) := by rw [hP.2.2.2.2.1]; simp [nM]
    have tt : m (12, 0, 0) 1 = cI (T + 1) := hM.2.2.2.2
    by_cases hd : dk_due N i
    · obtain ⟨d1, d2, d3, d4⟩ := hd
      have hd : dk_due N i := ⟨d1, d2, d3, d4⟩
      have n0 : ¬ N 0 i = 0 := fun e => d1 (h0 i hi16 e)
      have c6 : m (13, 16, 0) i = cI (T - N 7 i) := by
        have := hP.2.2.2.2.2.2.2.1 (by simpa [nM] using d1)
        rw [this]
        have e : nM N i 7 i = N 7 i + 1 := by simp [nM, hi16, d1]
        rw [e]
        congr 1
        omega
      have hM3 : PM (nM N (i + 1)) V E W (T + 1) (dk_up m (13, 3, 0) i (cI 0)) := by
        rw [nM_due hd]; exact PM_m4 hM
      obtain ⟨m', e, r1, r2⟩ := ih (i + 1) (c + 1) (by omega) (by omega) _ hM3
      refine ⟨m', sg_95_19 ⟨rfl, rfl, rfl, rfl, rfl, rfl, trivial⟩ rfl ?_, r1, FrM_tr (FrM_up ⟨Nat.le_of_ble_eq_true rfl, Nat.ne_of_beq_eq_false rfl⟩ FrM_refl) r2⟩
      have hs : T + 1 - (T - N 7 i) = N 7 i + 1 := by omega
      have hlt : ¬ N 7 i + 1 < N 2 i := by omega
      have hpos : 0 < N 2 i := by omega
      have hco : c + 1 + dk_dc N (i + 1) j = c + dk_dc N i (j + 1) := by rw [dk_dc_due hd]; omega
      rw [hco] at e
      simp (disch := omega) only [↓reduceIte, cI_lt, cI_nat, cI_inj, cI_add, cI_sub, le_F, or_self, Nat.not_lt_zero, hi16, l0, n0, c7, d1, c6, c5, s0, tt, hs, hpos, d4, hlt]
      exact dk_ex_run (dk_ev_ls e ⟨rfl, rfl, rfl, rfl, rfl, rfl, trivial⟩ rfl)
    · obtain ⟨m', e, r1, r2⟩ := ih (i + 1) c (by omega) (by omega) m (by rw [nM_no hd]; exact hM)
      refine ⟨m', sg_95_19 ⟨rfl, rfl, rfl, rfl, rfl, rfl, trivial⟩ rfl ?_, r1, r2⟩
      by_cases n0 : N 0 i = 0
      · simp (disch := omega) only [↓reduceIte, cI_lt, cI_nat, cI_inj, cI_add, le_F, or_self, Nat.not_lt_zero, hi16, l0, n0, dk_dc, hd, Nat.zero_add]
        exact dk_ex_run (dk_ev_ls e ⟨rfl, rfl, rfl, rfl, rfl, rfl, trivial⟩ rfl)
      · by_cases d1 : N 3 i = 9
        · simp (disch := omega) only [↓reduceIte, cI_lt, cI_nat, cI_inj, cI_add, le_F, or_self, Nat.not_lt_zero, hi16, l0, n0, c7, d1, dk_dc, hd, Nat.zero_add]
          exact dk_ex_run (dk_ev_ls e ⟨rfl, rfl, rfl, rfl, rfl, rfl, trivial⟩ rfl)
        · have c6 : m (13, 16, 0) i = cI (T - N 7 i) := by
            have := hP.2.2.2.2.2.2.2.1 (by simpa [nM] using d1)
            rw [this]
            have e : nM N i 7 i = N 7 i + 1 := by simp [nM, hi16, d1]
            rw [e]
            congr 1
            omega
          have hs : T + 1 - (T - N 7 i) = N 7 i + 1 := by omega
          by_cases hpos : 0 < N 2 i
          · by_cases hlt : N 7 i + 1 < N 2 i
            · simp (disch := omega) only [↓reduceIte, cI_lt, cI_nat, cI_inj, cI_add, cI_sub, le_F, or_self, Nat.not_lt_zero, hi16, l0, n0, c7, d1, c6, c5, tt, hs, hpos, hlt, dk_dc, hd, Nat.zero_add]
              exact dk_ex_run (dk_ev_ls e ⟨rfl, rfl, rfl, rfl, rfl, rfl, trivial⟩ rfl)
            · have d4 : ¬ N 4 i = 1 := fun d4 => hd ⟨d1, by omega, by omega, d4⟩
              simp (disch := omega) only [↓reduceIte, cI_lt, cI_nat, cI_inj, cI_add, cI_sub, le_F, or_self, Nat.not_lt_zero, hi16, l0, n0, c7, d1, c6, c5, s0, tt, hs, hpos, d4, hlt, dk_dc, hd, Nat.zero_add]
              exact dk_ex_run (dk_ev_ls e ⟨rfl, rfl, rfl, rfl, rfl, rfl, trivial⟩ rfl)
          · simp (disch := omega) only [↓reduceIte, cI_lt, cI_nat, cI_inj, cI_add, le_F, or_self, Nat.not_lt_zero, hi16, l0, n0, c7, d1, c5, hpos, dk_dc, hd, Nat.zero_add]
            exact dk_ex_run (dk_ev_ls e ⟨rfl, rfl, rfl, rfl, rfl, rfl, trivial⟩ rfl)
/-- tick -/
theorem bo_tick (h : IV N E W T n) (hn : n + 1 ≤ 512) : dk_Bd L 8 [(0, vR (0, 0, 0))] 95 [(0, vR (12, 0, 0))] N V E W T n := by
  have hT : T ≤ 512 := by have := h.2.2.2.2.2.1; omega
  refine ⟨nK N 16, T + 1, cI (0 + dk_dc N 0 16), fun m l k q hC => ?_, fun m l k q hM => ?_, IV_tick h hn⟩
  · have hC0 : PC (nK N 0) V E W (T + 1) (dk_up m (0, 0, 0) 5 (cI (T + 1))) := by
      have e : nK N 0 = N := by funext f i; simp [nK]
      rw [e]
      obtain ⟨h1, h2, h3, h4, h5, h6⟩ := hC
      exact ⟨fun r hr => by simpa [PCp, dk_up] using h1 r hr, fun r hr g hg => by simpa [PCg, dk_up] using h2 r hr g hg, fun c hc => by simpa [PCl, dk_up] using h3 c hc, by simpa [PCw, dk_up] using h4, dk_up_eq, by simpa [PCv, dk_up] using h6⟩
    obtain ⟨m', e, r1, r2⟩ := cl_8_loop (L := L) (l := l) (k := k) (q := q) h.1 (by omega) (fun p hp h4 => (h.2.2.1 p hp).2.2.1 (by omega)) 16 0 0 rfl (by omega) _ hC0
    refine ⟨m', sg_8_0 ⟨rfl, rfl, trivial⟩ rfl ?_, r1, FrC_tr (FrC_up (Nat.le_of_ble_eq_true rfl) FrC_refl) r2⟩
    have t5 : m (0, 0, 0) 5 = cI T := hC.2.2.2.2.1
    simp only [t5, cI_add]
    exact dk_ex_run e
  · obtain ⟨m', e, r1, r2⟩ := md_95_loop (L := L) (l := l) (k := k) (q := q) h.1 (by omega) (fun p hp h0 => (h.2.2.1 p hp).1 h0) 16 0 0 rfl (by omega) _ (PM_clock hM (fun p hp => (h.1 p hp).2.2.2.2.2.2.2.1))
    have e16 : nM N 16 = nK N 16 := rfl
    rw [e16] at r1
    refine ⟨m', sg_95_0 ⟨rfl, rfl, trivial⟩ rfl ?_, r1, FrM_tr (FrM_up ⟨Nat.le_of_ble_eq_true rfl, Nat.ne_of_beq_eq_false rfl⟩ (FrM_up ⟨Nat.le_of_ble_eq_true rfl, Nat.ne_of_beq_eq_false rfl⟩ FrM_refl)) r2⟩
    have t5 : m (12, 0, 0) 1 = cI T := hM.2.2.2.2
    simp (disch := omega) only [t5, cI_add, dk_up_f]
    exact dk_ex_run e
end
