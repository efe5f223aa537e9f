theorem lg_same (x : Int64) : lg_cmp x x = cI 0 := by
  unfold lg_cmp
  rw [if_neg (fun h => Int64.lt_irrefl h), if_pos rfl]
  rfl
/-! the law's loop -/
theorem cI_sub6 {a i : Nat} (ha : a < 2147483648) (hi : i < 2147483648) : (cI a - cI 6 < cI i) = (a < i + 6) := by
  apply propext
  by_cases h : 6 ≤ a
  · rw [cI_sub h, cI_lt (by omega) hi]; omega
  · refine ⟨fun _ => by omega, fun _ => ?_⟩
    rw [Int32.lt_iff_toInt_lt, cI_toInt hi]
    have h6 : a = 0 ∨ a = 1 ∨ a = 2 ∨ a = 3 ∨ a = 4 ∨ a = 5 := by omega
    have e0 : (cI 0 - cI 6).toInt = -6 := by decide
    have e1 : (cI 1 - cI 6).toInt = -5 := by decide
    have e2 : (cI 2 - cI 6).toInt = -4 := by decide
    have e3 : (cI 3 - cI 6).toInt = -3 := by decide
    have e4 : (cI 4 - cI 6).toInt = -2 := by decide
    have e5 : (cI 5 - cI 6).toInt = -1 := by decide
    rcases h6 with rfl | rfl | rfl | rfl | rfl | rfl <;> omega
section
variable {L : Nat}
/-- all that holds at the head of the loop -/
def dk_At (N : dkNN) (V : dkVV) (E : dkEE) (W : dkWW) (T n : Nat) (m : dkM) (q : Nat) : Prop := IV N E W T n ∧ PC N V E W T m ∧ PM N V E W T m ∧ q ≤ n
theorem bo_use {jc jm : Nat} {ac am : dkL} {N : dkNN} {V : dkVV} {E : dkEE} {W : dkWW} {T n : Nat} {Rr : Int64 → Option dkV → Prop} (hb : dk_Bo L jc ac jm am N V E W T n Rr) {m : dkM} {q : Nat} (h : dk_At N V E W T n m q) (hn : n + 1 ≤ 512) (l : Int64) (k : Nat) : ∃ N' V' E' W' T' m1 m2 l1 q1 c b o, dk_Ev L (jc, 0, ac, [], (m, l, .inl (), k, q)) ((m1, l1, .inl (), k, q1), .inl (some (vI (cI c)))) ∧ dk_Ev L (jm, 0, am, [], (m1, l1, .inl (), k, q1)) ((m2, l1, .inl (), k, q1), .inl o) ∧ m2 (12, 0, 0) 0 = cI c ∧ (cI c = cI 0 → l1 = b) ∧ Rr b o ∧ dk_At N' V' E' W' T' (n + 1) m2 q1 ∧ (∀ f, m1 (15, 0, 0) f = m (15, 0, 0) f) := by
  obtain ⟨N', V', E', W', T', c, b, o, hc, hm, hI, hR⟩ := hb
  obtain ⟨h1, h2, h3, h4⟩ := h
  obtain ⟨m1, l1, q1, e1, C1, F1, hq, hl⟩ := hc m l k q (by omega) h2
  obtain ⟨m2, e2, M2, F2, ht⟩ := hm m1 l1 k q1 (PM_of_FrC F1 h3)
  exact ⟨N', V', E', W', T', m1, m2, l1, q1, c, b, o, e1, e2, ht, hl, hR, ⟨hI, PC_of_FrM F2 C1, M2, by omega⟩, fun f => F1 (15, 0, 0) f (Nat.le_of_ble_eq_true rfl)⟩
theorem law_loop (hL : L ≤ 3072) : ∀ (j n : Nat), L ≤ 6 * n + j → ∀ (N : dkNN) (V : dkVV) (E : dkEE) (W : dkWW) (T : Nat) (m : dkM) (l : Int64) (k q : Nat), dk_At N V E W T n m q → 6 * n ≤ 3078 → ∃ y, dk_Ev L (104, 23, [(4, vI (cI (6 * n))), (0, vR (15, 0, 0)), (1, vR (0, 0, 0)), (2, vR (12, 0, 0)), (3, vR (14, 0, 0))], [], (m, l, .inl (), k, q)) y ∧ y.2 = .inl (some (vI (cI 1))) := by
  intro j
  induction j with
  | zero =>
    intro n hj N V E W T m l k q h hb
    refine ⟨((m, l, .inl (), k, q), .inl (some (vI (cI 1)))), sg_104_23 ⟨rfl, rfl, rfl, rfl, rfl, rfl, rfl, rfl, rfl, rfl, trivial⟩ rfl ?_, rfl⟩
    · have he : (Int32.ofNat L - cI 6 < cI (6 * n)) = True := by
        have e := cI_sub6 (a := L) (i := 6 * n) (by omega) (by omega)
        exact e.trans (eq_true (by omega))
      simp only [↓reduceIte, he]
      exact dk_ex_some
  | succ j ih =>
    intro n hj N V E W T m l k q h hb
    by_cases hend : L < 6 * n + 6
    · refine ⟨((m, l, .inl (), k, q), .inl (some (vI (cI 1)))), sg_104_23 ⟨rfl, rfl, rfl, rfl, rfl, rfl, rfl, rfl, rfl, rfl, trivial⟩ rfl ?_, rfl⟩
      · have he : (Int32.ofNat L - cI 6 < cI (6 * n)) = True := by
          have e := cI_sub6 (a := L) (i := 6 * n) (by omega) (by omega)
          exact e.trans (eq_true (by omega))
        simp only [↓reduceIte, he]
        exact dk_ex_some
    have he : (Int32.ofNat L - cI 6 < cI (6 * n)) = False := by
      have e := cI_sub6 (a := L) (i := 6 * n) (by omega) (by omega)
      exact e.trans (eq_false (by omega))
    have hn : n + 1 ≤ 512 := by omega
    have h6 : 6 * (n + 1) = 6 * n + 6 := by omega
    have nxt : ∀ (N : dkNN) (V : dkVV) (E : dkEE) (W : dkWW) (T : Nat) (m : dkM) (l : Int64) (k q : Nat), dk_At N V E W T (n + 1) m q → ∃ y, dk_Ev L (104, 23, [(4, vI (cI (6 * n + 6))), (0, vR (15, 0, 0)), (1, vR (0, 0, 0)), (2, vR (12, 0, 0)), (3, vR (14, 0, 0))], [], (m, l, .inl (), k, q)) y ∧ y.2 = .inl (some (vI (cI 1))) := fun N V E W T m l k q h => by
      have := ih (n + 1) (by omega) N V E W T m l k q h (by omega)
      rwa [h6] at this
    by_cases hs0 : m (15, 0, 0) (6 * n) &&& cI 15 = cI 0
    · obtain ⟨N', c, hcl, hmo, hI⟩ := bo_spawn (L := L) (V := V) (m (15, 0, 0) (6 * n + 1)) h.1 hn
      obtain ⟨m1, q1, e1, C1, F1, hq⟩ := hcl m l k q (by have := h.2.2.2; omega) h.2.1
      obtain ⟨m2, e2, M2, F2, ht⟩ := hmo m1 l k q1 (PM_of_FrC F1 h.2.2.1)
      have hf : ∀ f, m1 (15, 0, 0) f = m (15, 0, 0) f := fun f => F1 (15, 0, 0) f (Nat.le_of_ble_eq_true rfl)
      obtain ⟨y, ey, hy⟩ := nxt N' V E W T m2 l k q1 ⟨hI, PC_of_FrM F2 C1, M2, by have := h.2.2.2; omega⟩
      refine ⟨y, sg_104_23 ⟨rfl, rfl, rfl, rfl, rfl, rfl, rfl, rfl, rfl, rfl, trivial⟩ rfl ?_, hy⟩
      simp (disch := omega) only [↓reduceIte, he, hs0, cI_lt, cI_nat, cI_inj, cI_add, le_F, or_self, Nat.not_lt_zero, Nat.reduceEqDiff]
      refine dk_ex_run (kv_104_115 e1 (sg_104_118 ⟨rfl, rfl, rfl, rfl, rfl, rfl, rfl, rfl, rfl, rfl, trivial⟩ rfl ?_))
      simp (disch := omega) only [↓reduceIte, hf, cI_lt, cI_nat, cI_add, le_F, or_self, Nat.not_lt_zero]
      refine dk_ex_run (kv_104_127 e2 (sg_104_130 ⟨rfl, rfl, rfl, rfl, rfl, rfl, rfl, rfl, rfl, rfl, rfl, rfl, trivial⟩ rfl ?_))
      simp only [↓reduceIte, ht, cI_add]
      exact dk_ex_run (dk_ev_ls ey ⟨rfl, rfl, rfl, rfl, rfl, rfl, rfl, rfl, rfl, rfl, trivial⟩ rfl)
    by_cases hs1 : m (15, 0, 0) (6 * n) &&& cI 15 = cI 1
    · by_cases ho : m (15, 0, 0) (6 * n + 5) = cI 0
      · obtain ⟨N', V', E', W', T', m1, m2, l1, q1, c, b, oo, e1, e2, ht, hl, ⟨w, rfl, hw⟩, hA, hf⟩ := bo_use (bo_guard (L := L) (V := V) (m (15, 0, 0) (6 * n + 1)) (m (15, 0, 0) (6 * n + 2)) (m (15, 0, 0) (6 * n + 3)) (m (15, 0, 0) (6 * n + 4)) 0 (by omega) h.1 hn) h hn l k
        obtain ⟨y, ey, hy⟩ := nxt N' V' E' W' T' m2 l1 k q1 hA
        refine ⟨y, sg_104_23 ⟨rfl, rfl, rfl, rfl, rfl, rfl, rfl, rfl, rfl, rfl, trivial⟩ rfl ?_, hy⟩
        simp (disch := omega) only [↓reduceIte, he, hs1, ho, cI_lt, cI_nat, cI_inj, cI_add, le_F, or_self, Nat.not_lt_zero, Nat.reduceEqDiff]
        refine dk_ex_run (kv_104_184 e1 (sg_104_187 ⟨rfl, rfl, rfl, rfl, rfl, rfl, rfl, rfl, rfl, rfl, trivial⟩ rfl ?_))
        simp (disch := omega) only [↓reduceIte, hf, ho, cI_lt, cI_nat, cI_add, le_F, or_self, Nat.not_lt_zero]
        refine dk_ex_run (kv_104_228 e2 (sg_104_231 ⟨rfl, rfl, rfl, rfl, rfl, rfl, rfl, rfl, rfl, rfl, rfl, rfl, trivial⟩ rfl ?_))
        by_cases hc : cI c = cI 0
        · have hlw : l1 = w.toInt64 := (hl hc).trans hw
          subst hlw
          simp (disch := omega) only [↓reduceIte, ht, hc, lg_same, cI_add]
          exact dk_ex_run (dk_ev_ls ey ⟨rfl, rfl, rfl, rfl, rfl, rfl, rfl, rfl, rfl, rfl, trivial⟩ rfl)
        · have hcc : (cI c = cI 0) = False := eq_false hc
          simp (disch := omega) only [↓reduceIte, ht, hcc, cI_add]
          exact dk_ex_run (dk_ev_ls ey ⟨rfl, rfl, rfl, rfl, rfl, rfl, rfl, rfl, rfl, rfl, trivial⟩ rfl)
      · obtain ⟨N', V', E', W', T', m1, m2, l1, q1, c, b, oo, e1, e2, ht, hl, ⟨w, rfl, hw⟩, hA, hf⟩ := bo_use (bo_guard (L := L) (V := V) (m (15, 0, 0) (6 * n + 1)) (m (15, 0, 0) (6 * n + 2)) (m (15, 0, 0) (6 * n + 3)) (m (15, 0, 0) (6 * n + 4)) 1 (by omega) h.1 hn) h hn l k
        obtain ⟨y, ey, hy⟩ := nxt N' V' E' W' T' m2 l1 k q1 hA
        refine ⟨y, sg_104_23 ⟨rfl, rfl, rfl, rfl, rfl, rfl, rfl, rfl, rfl, rfl, trivial⟩ rfl ?_, hy⟩
        simp (disch := omega) only [↓reduceIte, he, hs1, ho, cI_lt, cI_nat, cI_inj, cI_add, le_F, or_self, Nat.not_lt_zero, Nat.reduceEqDiff]
        refine dk_ex_run (kv_104_184 e1 (sg_104_187 ⟨rfl, rfl, rfl, rfl, rfl, rfl, rfl, rfl, rfl, rfl, trivial⟩ rfl ?_))
        simp (disch := omega) only [↓reduceIte, hf, ho, cI_lt, cI_nat, cI_add, le_F, or_self, Nat.not_lt_zero]
        refine dk_ex_run (kv_104_228 e2 (sg_104_231 ⟨rfl, rfl, rfl, rfl, rfl, rfl, rfl, rfl, rfl, rfl, rfl, rfl, trivial⟩ rfl ?_))
        by_cases hc : cI c = cI 0
        · have hlw : l1 = w.toInt64 := (hl hc).trans hw
          subst hlw
          simp (disch := omega) only [↓reduceIte, ht, hc, lg_same, cI_add]
          exact dk_ex_run (dk_ev_ls ey ⟨rfl, rfl, rfl, rfl, rfl, rfl, rfl, rfl, rfl, rfl, trivial⟩ rfl)
        · have hcc : (cI c = cI 0) = False := eq_false hc
          simp (disch := omega) only [↓reduceIte, ht, hcc, cI_add]
          exact dk_ex_run (dk_ev_ls ey ⟨rfl, rfl, rfl, rfl, rfl, rfl, rfl, rfl, rfl, rfl, trivial⟩ rfl)
    by_cases hs2 : m (15, 0, 0) (6 * n) &&& cI 15 = cI 2
    · obtain ⟨N', V', E', W', T', m1, m2, l1, q1, c, b, o, e1, e2, ht, hl, ⟨w, rfl, hw⟩, hA, hf⟩ := bo_use (bo_tmo (L := L) (V := V) (m (15, 0, 0) (6 * n + 1)) (m (15, 0, 0) (6 * n + 2)) h.1 hn) h hn l k
      obtain ⟨y, ey, hy⟩ := nxt N' V' E' W' T' m2 l1 k q1 hA
      refine ⟨y, sg_104_23 ⟨rfl, rfl, rfl, rfl, rfl, rfl, rfl, rfl, rfl, rfl, trivial⟩ rfl ?_, hy⟩
      simp (disch := omega) only [↓reduceIte, he, hs2, cI_lt, cI_nat, cI_inj, cI_add, le_F, or_self, Nat.not_lt_zero, Nat.reduceEqDiff]
      refine dk_ex_run (kv_104_278 e1 (sg_104_281 ⟨rfl, rfl, rfl, rfl, rfl, rfl, rfl, rfl, rfl, rfl, trivial⟩ rfl ?_))
      simp (disch := omega) only [↓reduceIte, hf, cI_lt, cI_nat, cI_add, le_F, or_self, Nat.not_lt_zero]
      refine dk_ex_run (kv_104_296 e2 (sg_104_299 ⟨rfl, rfl, rfl, rfl, rfl, rfl, rfl, rfl, rfl, rfl, rfl, rfl, trivial⟩ rfl ?_))
      by_cases hc : cI c = cI 0
      · have hlw : l1 = w.toInt64 := (hl hc).trans hw
        subst hlw
        simp (disch := omega) only [↓reduceIte, ht, hc, lg_same, cI_add]
        exact dk_ex_run (dk_ev_ls ey ⟨rfl, rfl, rfl, rfl, rfl, rfl, rfl, rfl, rfl, rfl, trivial⟩ rfl)
      · have hcc : (cI c = cI 0) = False := eq_false hc
        simp (disch := omega) only [↓reduceIte, ht, hcc, cI_add]
        exact dk_ex_run (dk_ev_ls ey ⟨rfl, rfl, rfl, rfl, rfl, rfl, rfl, rfl, rfl, rfl, trivial⟩ rfl)
    by_cases hs3 : m (15, 0, 0) (6 * n) &&& cI 15 = cI 3
    · obtain ⟨N', V', E', W', T', m1, m2, l1, q1, c, b, o, e1, e2, ht, hl, ⟨w, rfl, hw⟩, hA, hf⟩ := bo_use (bo_offer (L := L) (V := V) (m (15, 0, 0) (6 * n + 1)) h.1 hn) h hn l k
      obtain ⟨y, ey, hy⟩ := nxt N' V' E' W' T' m2 l1 k q1 hA
      refine ⟨y, sg_104_23 ⟨rfl, rfl, rfl, rfl, rfl, rfl, rfl, rfl, rfl, rfl, trivial⟩ rfl ?_, hy⟩
      simp (disch := omega) only [↓reduceIte, he, hs3, cI_lt, cI_nat, cI_inj, cI_add, le_F, or_self, Nat.not_lt_zero, Nat.reduceEqDiff]
      refine dk_ex_run (kv_104_340 e1 (sg_104_343 ⟨rfl, rfl, rfl, rfl, rfl, rfl, rfl, rfl, rfl, rfl, trivial⟩ rfl ?_))
      simp (disch := omega) only [↓reduceIte, hf, cI_lt, cI_nat, cI_add, le_F, or_self, Nat.not_lt_zero]
      refine dk_ex_run (kv_104_352 e2 (sg_104_355 ⟨rfl, rfl, rfl, rfl, rfl, rfl, rfl, rfl, rfl, rfl, rfl, rfl, trivial⟩ rfl ?_))
      by_cases hc : cI c = cI 0
      · have hlw : l1 = w.toInt64 := (hl hc).trans hw
        subst hlw
        simp (disch := omega) only [↓reduceIte, ht, hc, lg_same, cI_add]
        exact dk_ex_run (dk_ev_ls ey ⟨rfl, rfl, rfl, rfl, rfl, rfl, rfl, rfl, rfl, rfl, trivial⟩ rfl)
      · have hcc : (cI c = cI 0) = False := eq_false hc
        simp (disch := omega) only [↓reduceIte, ht, hcc, cI_add]
        exact dk_ex_run (dk_ev_ls ey ⟨rfl, rfl, rfl, rfl, rfl, rfl, rfl, rfl, rfl, rfl, trivial⟩ rfl)
    by_cases hs4 : m (15, 0, 0) (6 * n) &&& cI 15 = cI 4
    · obtain ⟨N', V', E', W', T', m1, m2, l1, q1, c, b, o, e1, e2, ht, hl, ⟨w, rfl, hw⟩, hA, hf⟩ := bo_use (bo_step (L := L) (V := V) (m (15, 0, 0) (6 * n + 1)) h.1 hn) h hn l k
      obtain ⟨y, ey, hy⟩ := nxt N' V' E' W' T' m2 l1 k q1 hA
      refine ⟨y, sg_104_23 ⟨rfl, rfl, rfl, rfl, rfl, rfl, rfl, rfl, rfl, rfl, trivial⟩ rfl ?_, hy⟩
      simp (disch := omega) only [↓reduceIte, he, hs4, cI_lt, cI_nat, cI_inj, cI_add, le_F, or_self, Nat.not_lt_zero, Nat.reduceEqDiff]
      refine dk_ex_run (kv_104_396 e1 (sg_104_399 ⟨rfl, rfl, rfl, rfl, rfl, rfl, rfl, rfl, rfl, rfl, trivial⟩ rfl ?_))
      simp (disch := omega) only [↓reduceIte, hf, cI_lt, cI_nat, cI_add, le_F, or_self, Nat.not_lt_zero]
      refine dk_ex_run (kv_104_408 e2 (sg_104_411 ⟨rfl, rfl, rfl, rfl, rfl, rfl, rfl, rfl, rfl, rfl, rfl, rfl, trivial⟩ rfl ?_))
      by_cases hc : cI c = cI 0
      · have hlw : l1 = w.toInt64 := (hl hc).trans hw
        subst hlw
        simp (disch := omega) only [↓reduceIte, ht, hc, lg_same, cI_add]
        exact dk_ex_run (dk_ev_ls ey ⟨rfl, rfl, rfl, rfl, rfl, rfl, rfl, rfl, rfl, rfl, trivial⟩ rfl)
      · have hcc : (cI c = cI 0) = False := eq_false hc
        simp (disch := omega) only [↓reduceIte, ht, hcc, cI_add]
        exact dk_ex_run (dk_ev_ls ey ⟨rfl, rfl, rfl, rfl, rfl, rfl, rfl, rfl, rfl, rfl, trivial⟩ rfl)
    by_cases hs5 : m (15, 0, 0) (6 * n) &&& cI 15 = cI 5
    · obtain ⟨N', T', b, hcl, hmo, hI⟩ := bo_tick (L := L) (V := V) h.1 hn
      obtain ⟨m1, e1, C1, F1⟩ := hcl m l k q h.2.1
      obtain ⟨m2, e2, M2, F2⟩ := hmo m1 l k q (PM_of_FrC F1 h.2.2.1)
      have hf : ∀ f, m1 (15, 0, 0) f = m (15, 0, 0) f := fun f => F1 (15, 0, 0) f (Nat.le_of_ble_eq_true rfl)
      obtain ⟨y, ey, hy⟩ := nxt N' V E W T' m2 l k q ⟨hI, PC_of_FrM F2 C1, M2, by have := h.2.2.2; omega⟩
      refine ⟨y, sg_104_23 ⟨rfl, rfl, rfl, rfl, rfl, rfl, rfl, rfl, rfl, rfl, trivial⟩ rfl ?_, hy⟩
      simp (disch := omega) only [↓reduceIte, he, hs5, cI_lt, cI_nat, cI_inj, cI_add, le_F, or_self, Nat.not_lt_zero, Nat.reduceEqDiff]
      refine dk_ex_run (kv_104_445 e1 (sg_104_448 ⟨rfl, rfl, rfl, rfl, rfl, rfl, rfl, rfl, rfl, rfl, trivial⟩ rfl ?_))
      skip
      refine dk_ex_run (kv_104_449 e2 (sg_104_452 ⟨rfl, rfl, rfl, rfl, rfl, rfl, rfl, rfl, rfl, rfl, trivial⟩ rfl ?_))
      simp only [↓reduceIte, cI_add]
      exact dk_ex_run (dk_ev_ls ey ⟨rfl, rfl, rfl, rfl, rfl, rfl, rfl, rfl, rfl, rfl, trivial⟩ rfl)
    by_cases hs6 : m (15, 0, 0) (6 * n) &&& cI 15 = cI 6
    · obtain ⟨N', V', E', W', T', m1, m2, l1, q1, c, b, o, e1, e2, ht, hl, ⟨z, hz, rfl, hw⟩, hA, hf⟩ := bo_use (bo_cancel (L := L) (V := V) (m (15, 0, 0) (6 * n + 1)) h.1 hn) h hn l k
      obtain ⟨y, ey, hy⟩ := nxt N' V' E' W' T' m2 l1 k q1 hA
      refine ⟨y, sg_104_23 ⟨rfl, rfl, rfl, rfl, rfl, rfl, rfl, rfl, rfl, rfl, trivial⟩ rfl ?_, hy⟩
      simp (disch := omega) only [↓reduceIte, he, hs6, cI_lt, cI_nat, cI_inj, cI_add, le_F, or_self, Nat.not_lt_zero, Nat.reduceEqDiff]
      refine dk_ex_run (kv_104_465 e1 (sg_104_468 ⟨rfl, rfl, rfl, rfl, rfl, rfl, rfl, rfl, rfl, rfl, trivial⟩ rfl ?_))
      simp (disch := omega) only [↓reduceIte, hf, cI_lt, cI_nat, cI_add, le_F, or_self, Nat.not_lt_zero]
      refine dk_ex_run (kv_104_477 e2 (sg_104_480 ⟨rfl, rfl, rfl, rfl, rfl, rfl, rfl, rfl, rfl, rfl, rfl, rfl, trivial⟩ rfl ?_))
      by_cases hc : cI c = cI 0
      · have hlw : l1 = if z = 0 then 0 else 1 := (hl hc).trans hw
        by_cases hz0 : z = 0
        · subst hz0
          rw [if_pos rfl] at hlw
          subst hlw
          simp (disch := omega) only [↓reduceIte, ht, hc, lg_same, cI_add]
          exact dk_ex_run (dk_ev_ls ey ⟨rfl, rfl, rfl, rfl, rfl, rfl, rfl, rfl, rfl, rfl, trivial⟩ rfl)
        · have hz1 : z = 1 := by omega
          subst hz1
          rw [if_neg (by decide)] at hlw
          subst hlw
          simp (disch := omega) only [↓reduceIte, ht, hc, lg_same, n10, cI_add]
          exact dk_ex_run (dk_ev_ls ey ⟨rfl, rfl, rfl, rfl, rfl, rfl, rfl, rfl, rfl, rfl, trivial⟩ rfl)
      · have hcc : (cI c = cI 0) = False := eq_false hc
        simp (disch := omega) only [↓reduceIte, ht, hcc, cI_add]
        exact dk_ex_run (dk_ev_ls ey ⟨rfl, rfl, rfl, rfl, rfl, rfl, rfl, rfl, rfl, rfl, trivial⟩ rfl)
    by_cases hs7 : m (15, 0, 0) (6 * n) &&& cI 15 = cI 7
    · obtain ⟨N', V', E', W', T', m1, m2, l1, q1, c, b, o, e1, e2, ht, hl, ⟨w, rfl, hw⟩, hA, hf⟩ := bo_use (bo_finish (L := L) (V := V) (m (15, 0, 0) (6 * n + 1)) h.1 hn) h hn l k
      obtain ⟨y, ey, hy⟩ := nxt N' V' E' W' T' m2 l1 k q1 hA
      refine ⟨y, sg_104_23 ⟨rfl, rfl, rfl, rfl, rfl, rfl, rfl, rfl, rfl, rfl, trivial⟩ rfl ?_, hy⟩
      simp (disch := omega) only [↓reduceIte, he, hs7, cI_lt, cI_nat, cI_inj, cI_add, le_F, or_self, Nat.not_lt_zero, Nat.reduceEqDiff]
      refine dk_ex_run (kv_104_528 e1 (sg_104_531 ⟨rfl, rfl, rfl, rfl, rfl, rfl, rfl, rfl, rfl, rfl, trivial⟩ rfl ?_))
      simp (disch := omega) only [↓reduceIte, hf, cI_lt, cI_nat, cI_add, le_F, or_self, Nat.not_lt_zero]
      refine dk_ex_run (kv_104_540 e2 (sg_104_543 ⟨rfl, rfl, rfl, rfl, rfl, rfl, rfl, rfl, rfl, rfl, rfl, rfl, trivial⟩ rfl ?_))
      by_cases hc : cI c = cI 0
      · have hlw : l1 = w.toInt64 := (hl hc).trans hw
        subst hlw
        simp (disch := omega) only [↓reduceIte, ht, hc, lg_same, cI_add]
        exact dk_ex_run (dk_ev_ls ey ⟨rfl, rfl, rfl, rfl, rfl, rfl, rfl, rfl, rfl, rfl, trivial⟩ rfl)
      · have hcc : (cI c = cI 0) = False := eq_false hc
        simp (disch := omega) only [↓reduceIte, ht, hcc, cI_add]
        exact dk_ex_run (dk_ev_ls ey ⟨rfl, rfl, rfl, rfl, rfl, rfl, rfl, rfl, rfl, rfl, trivial⟩ rfl)
    by_cases hs8 : m (15, 0, 0) (6 * n) &&& cI 15 = cI 8
    · obtain ⟨N', V', E', W', T', m1, m2, l1, q1, c, b, o, e1, e2, ht, hl, ⟨w, rfl, hw⟩, hA, hf⟩ := bo_use (bo_process (L := L) (V := V) (m (15, 0, 0) (6 * n + 1)) (m (15, 0, 0) (6 * n + 2)) h.1 hn) h hn l k
      obtain ⟨y, ey, hy⟩ := nxt N' V' E' W' T' m2 l1 k q1 hA
      refine ⟨y, sg_104_23 ⟨rfl, rfl, rfl, rfl, rfl, rfl, rfl, rfl, rfl, rfl, trivial⟩ rfl ?_, hy⟩
      simp (disch := omega) only [↓reduceIte, he, hs8, cI_lt, cI_nat, cI_inj, cI_add, le_F, or_self, Nat.not_lt_zero, Nat.reduceEqDiff]
      refine dk_ex_run (kv_104_590 e1 (sg_104_593 ⟨rfl, rfl, rfl, rfl, rfl, rfl, rfl, rfl, rfl, rfl, trivial⟩ rfl ?_))
      simp (disch := omega) only [↓reduceIte, hf, cI_lt, cI_nat, cI_add, le_F, or_self, Nat.not_lt_zero]
      refine dk_ex_run (kv_104_608 e2 (sg_104_611 ⟨rfl, rfl, rfl, rfl, rfl, rfl, rfl, rfl, rfl, rfl, rfl, rfl, trivial⟩ rfl ?_))
      by_cases hc : cI c = cI 0
      · have hlw : l1 = w.toInt64 := (hl hc).trans hw
        subst hlw
        simp (disch := omega) only [↓reduceIte, ht, hc, lg_same, cI_add]
        exact dk_ex_run (dk_ev_ls ey ⟨rfl, rfl, rfl, rfl, rfl, rfl, rfl, rfl, rfl, rfl, trivial⟩ rfl)
      · have hcc : (cI c = cI 0) = False := eq_false hc
        simp (disch := omega) only [↓reduceIte, ht, hcc, cI_add]
        exact dk_ex_run (dk_ev_ls ey ⟨rfl, rfl, rfl, rfl, rfl, rfl, rfl, rfl, rfl, rfl, trivial⟩ rfl)
    by_cases hs9 : m (15, 0, 0) (6 * n) &&& cI 15 = cI 9
    · obtain ⟨N', V', E', W', T', m1, m2, l1, q1, c, b, o, e1, e2, ht, hl, ⟨w, rfl, hw⟩, hA, hf⟩ := bo_use (bo_waiting (L := L) (V := V) (m (15, 0, 0) (6 * n + 1)) (m (15, 0, 0) (6 * n + 2)) (m (15, 0, 0) (6 * n + 3)) h.1 hn) h hn l k
      obtain ⟨y, ey, hy⟩ := nxt N' V' E' W' T' m2 l1 k q1 hA
      refine ⟨y, sg_104_23 ⟨rfl, rfl, rfl, rfl, rfl, rfl, rfl, rfl, rfl, rfl, trivial⟩ rfl ?_, hy⟩
      simp (disch := omega) only [↓reduceIte, he, hs9, cI_lt, cI_nat, cI_inj, cI_add, le_F, or_self, Nat.not_lt_zero, Nat.reduceEqDiff]
      refine dk_ex_run (kv_104_664 e1 (sg_104_667 ⟨rfl, rfl, rfl, rfl, rfl, rfl, rfl, rfl, rfl, rfl, trivial⟩ rfl ?_))
      simp (disch := omega) only [↓reduceIte, hf, cI_lt, cI_nat, cI_add, le_F, or_self, Nat.not_lt_zero]
      refine dk_ex_run (kv_104_688 e2 (sg_104_691 ⟨rfl, rfl, rfl, rfl, rfl, rfl, rfl, rfl, rfl, rfl, rfl, rfl, trivial⟩ rfl ?_))
      by_cases hc : cI c = cI 0
      · have hlw : l1 = w.toInt64 := (hl hc).trans hw
        subst hlw
        simp (disch := omega) only [↓reduceIte, ht, hc, lg_same, cI_add]
        exact dk_ex_run (dk_ev_ls ey ⟨rfl, rfl, rfl, rfl, rfl, rfl, rfl, rfl, rfl, rfl, trivial⟩ rfl)
      · have hcc : (cI c = cI 0) = False := eq_false hc
        simp (disch := omega) only [↓reduceIte, ht, hcc, cI_add]
        exact dk_ex_run (dk_ev_ls ey ⟨rfl, rfl, rfl, rfl, rfl, rfl, rfl, rfl, rfl, rfl, trivial⟩ rfl)
    by_cases hs10 : m (15, 0, 0) (6 * n) &&& cI 15 = cI 10
    · obtain ⟨N', V', E', W', T', m1, m2, l1, q1, c, b, o, e1, e2, ht, hl, ⟨w, rfl, hw⟩, hA, hf⟩ := bo_use (bo_pair (L := L) (V := V) (m (15, 0, 0) (6 * n + 1)) (m (15, 0, 0) (6 * n + 2)) h.1 hn) h hn l k
      obtain ⟨y, ey, hy⟩ := nxt N' V' E' W' T' m2 l1 k q1 hA
      refine ⟨y, sg_104_23 ⟨rfl, rfl, rfl, rfl, rfl, rfl, rfl, rfl, rfl, rfl, trivial⟩ rfl ?_, hy⟩
      simp (disch := omega) only [↓reduceIte, he, hs10, cI_lt, cI_nat, cI_inj, cI_add, le_F, or_self, Nat.not_lt_zero, Nat.reduceEqDiff]
      refine dk_ex_run (kv_104_738 e1 (sg_104_741 ⟨rfl, rfl, rfl, rfl, rfl, rfl, rfl, rfl, rfl, rfl, trivial⟩ rfl ?_))
      simp (disch := omega) only [↓reduceIte, hf, cI_lt, cI_nat, cI_add, le_F, or_self, Nat.not_lt_zero]
      refine dk_ex_run (kv_104_756 e2 (sg_104_759 ⟨rfl, rfl, rfl, rfl, rfl, rfl, rfl, rfl, rfl, rfl, rfl, rfl, trivial⟩ rfl ?_))
      by_cases hc : cI c = cI 0
      · have hlw : l1 = w.toInt64 := (hl hc).trans hw
        subst hlw
        simp (disch := omega) only [↓reduceIte, ht, hc, lg_same, cI_add]
        exact dk_ex_run (dk_ev_ls ey ⟨rfl, rfl, rfl, rfl, rfl, rfl, rfl, rfl, rfl, rfl, trivial⟩ rfl)
      · have hcc : (cI c = cI 0) = False := eq_false hc
        simp (disch := omega) only [↓reduceIte, ht, hcc, cI_add]
        exact dk_ex_run (dk_ev_ls ey ⟨rfl, rfl, rfl, rfl, rfl, rfl, rfl, rfl, rfl, rfl, trivial⟩ rfl)
    by_cases hs11 : m (15, 0, 0) (6 * n) &&& cI 15 = cI 11
    · obtain ⟨N', V', E', W', T', m1, m2, l1, q1, c, b, o, e1, e2, ht, hl, ⟨w, rfl, hw⟩, hA, hf⟩ := bo_use (bo_run (L := L) (V := V) (m (15, 0, 0) (6 * n + 1)) (m (15, 0, 0) (6 * n + 2)) h.1 hn) h hn l k
      obtain ⟨y, ey, hy⟩ := nxt N' V' E' W' T' m2 l1 k q1 hA
      refine ⟨y, sg_104_23 ⟨rfl, rfl, rfl, rfl, rfl, rfl, rfl, rfl, rfl, rfl, trivial⟩ rfl ?_, hy⟩
      simp (disch := omega) only [↓reduceIte, he, hs11, cI_lt, cI_nat, cI_inj, cI_add, le_F, or_self, Nat.not_lt_zero, Nat.reduceEqDiff]
      refine dk_ex_run (kv_104_806 e1 (sg_104_809 ⟨rfl, rfl, rfl, rfl, rfl, rfl, rfl, rfl, rfl, rfl, trivial⟩ rfl ?_))
      simp (disch := omega) only [↓reduceIte, hf, cI_lt, cI_nat, cI_add, le_F, or_self, Nat.not_lt_zero]
      refine dk_ex_run (kv_104_824 e2 (sg_104_827 ⟨rfl, rfl, rfl, rfl, rfl, rfl, rfl, rfl, rfl, rfl, rfl, rfl, trivial⟩ rfl ?_))
      by_cases hc : cI c = cI 0
      · have hlw : l1 = w.toInt64 := (hl hc).trans hw
        subst hlw
        simp (disch := omega) only [↓reduceIte, ht, hc, lg_same, cI_add]
        exact dk_ex_run (dk_ev_ls ey ⟨rfl, rfl, rfl, rfl, rfl, rfl, rfl, rfl, rfl, rfl, trivial⟩ rfl)
      · have hcc : (cI c = cI 0) = False := eq_false hc
        simp (disch := omega) only [↓reduceIte, ht, hcc, cI_add]
        exact dk_ex_run (dk_ev_ls ey ⟨rfl, rfl, rfl, rfl, rfl, rfl, rfl, rfl, rfl, rfl, trivial⟩ rfl)
    by_cases hs12 : m (15, 0, 0) (6 * n) &&& cI 15 = cI 12
    · obtain ⟨N', T', b, hcl, hmo, hI⟩ := bo_count (L := L) (V := V) (m (15, 0, 0) (6 * n + 1)) h.1 hn
      obtain ⟨m1, e1, C1, F1⟩ := hcl m l k q h.2.1
      obtain ⟨m2, e2, M2, F2⟩ := hmo m1 l k q (PM_of_FrC F1 h.2.2.1)
      have hf : ∀ f, m1 (15, 0, 0) f = m (15, 0, 0) f := fun f => F1 (15, 0, 0) f (Nat.le_of_ble_eq_true rfl)
      obtain ⟨y, ey, hy⟩ := nxt N' V E W T' m2 l k q ⟨hI, PC_of_FrM F2 C1, M2, by have := h.2.2.2; omega⟩
      refine ⟨y, sg_104_23 ⟨rfl, rfl, rfl, rfl, rfl, rfl, rfl, rfl, rfl, rfl, trivial⟩ rfl ?_, hy⟩
      simp (disch := omega) only [↓reduceIte, he, hs12, cI_lt, cI_nat, cI_inj, cI_add, le_F, or_self, Nat.not_lt_zero, Nat.reduceEqDiff]
      refine dk_ex_run (kv_104_867 e1 (sg_104_870 ⟨rfl, rfl, rfl, rfl, rfl, rfl, rfl, rfl, rfl, rfl, trivial⟩ rfl ?_))
      simp (disch := omega) only [↓reduceIte, hf, cI_lt, cI_nat, cI_add, le_F, or_self, Nat.not_lt_zero]
      refine dk_ex_run (kv_104_877 e2 (sg_104_880 ⟨rfl, rfl, rfl, rfl, rfl, rfl, rfl, rfl, rfl, rfl, trivial⟩ rfl ?_))
      simp only [↓reduceIte, cI_add]
      exact dk_ex_run (dk_ev_ls ey ⟨rfl, rfl, rfl, rfl, rfl, rfl, rfl, rfl, rfl, rfl, trivial⟩ rfl)
    obtain ⟨y, ey, hy⟩ := nxt N V E W T m l k q ⟨IV_up h.1 (by omega) hn, h.2.1, h.2.2.1, by have := h.2.2.2; omega⟩
    refine ⟨y, sg_104_23 ⟨rfl, rfl, rfl, rfl, rfl, rfl, rfl, rfl, rfl, rfl, trivial⟩ rfl ?_, hy⟩
    simp (disch := omega) only [↓reduceIte, he, cI_lt, cI_nat, cI_add, le_F, or_self, Nat.not_lt_zero, hs0, hs1, hs2, hs3, hs4, hs5, hs6, hs7, hs8, hs9, hs10, hs11, hs12]
    exact dk_ex_run (dk_ev_ls ey ⟨rfl, rfl, rfl, rfl, rfl, rfl, rfl, rfl, rfl, rfl, trivial⟩ rfl)
end
