/-! count on both sides -/
section
variable {L : Nat} {N : dkNN} {V : dkVV} {E : dkEE} {W : dkWW} {T n : Nat}
def dk_cn (f : Nat → Bool) (i : Nat) : Nat := ((List.range i).filter f).length
theorem cn_1 {f : Nat → Bool} {i : Nat} (h : f i = true) : dk_cn f (i + 1) = dk_cn f i + 1 := by
  simp [dk_cn, List.range_succ, List.filter_append, h]
theorem cn_0 {f : Nat → Bool} {i : Nat} (h : f i = false) : dk_cn f (i + 1) = dk_cn f i := by
  simp [dk_cn, List.range_succ, List.filter_append, h]
theorem cl_9_loop {m : dkM} {l : Int64} {k q : Nat} (hc : ∀ p, p < 16 → m (2, p, 0) 7 = cI (N 3 p) ∧ N 3 p ≤ 9) : ∀ (j i : Nat), i + j = 16 → dk_Ev L (9, 4, [(2, vI (cI i)), (1, vI (cI (dk_cn (fun r => N 3 r != 9) i))), (0, vR (0, 0, 0))], [], (m, l, .inl (), k, q)) ((m, l, .inl (), k, q), .inl (some (vI (cI (dk_cn (fun r => N 3 r != 9) 16))))) := by
  intro j
  induction j with
  | zero =>
    intro i hi
    have hi : i = 16 := by omega
    subst hi
    refine sg_9_4 ⟨rfl, rfl, rfl, rfl, rfl, rfl, trivial⟩ rfl ?_
    simp (disch := omega) only [↓reduceIte, cI_lt, Nat.lt_irrefl]
    exact dk_ex_some
  | succ j ih =>
    intro i hi
    have hi16 : i < 16 := by omega
    obtain ⟨c7, b3⟩ := hc i hi16
    have e := ih (i + 1) (by omega)
    refine sg_9_4 ⟨rfl, rfl, rfl, rfl, rfl, rfl, trivial⟩ rfl ?_
    by_cases h9 : N 3 i = 9
    · rw [cn_0 (by simp [h9])] at e
      simp (disch := omega) only [↓reduceIte, cI_lt, cI_nat, cI_inj, cI_add, le_F, or_self, Nat.not_lt_zero, hi16, c7, h9]
      exact dk_ex_run (dk_ev_ls e ⟨rfl, rfl, rfl, rfl, rfl, rfl, trivial⟩ rfl)
    · rw [cn_1 (by simp [h9])] at e
      simp (disch := omega) only [↓reduceIte, cI_lt, cI_nat, cI_inj, cI_add, le_F, or_self, Nat.not_lt_zero, hi16, c7, h9]
      exact dk_ex_run e
theorem cl_10_loop {m : dkM} {l : Int64} {k q : Nat} (hc : ∀ c, c < 8 → m (7, c, 0) 3 = cI (E c).length) : ∀ (j i : Nat), i + j = 8 → dk_Ev L (10, 4, [(2, vI (cI i)), (1, vI (cI (dk_sm (fun c => (E c).length) i))), (0, vR (0, 0, 0))], [], (m, l, .inl (), k, q)) ((m, l, .inl (), k, q), .inl (some (vI (cI (dk_sm (fun c => (E c).length) 8))))) := by
  intro j
  induction j with
  | zero =>
    intro i hi
    have hi : i = 8 := by omega
    subst hi
    refine sg_10_4 ⟨rfl, rfl, rfl, rfl, rfl, rfl, trivial⟩ rfl ?_
    simp (disch := omega) only [↓reduceIte, cI_lt, Nat.lt_irrefl]
    exact dk_ex_some
  | succ j ih =>
    intro i hi
    have hi8 : i < 8 := by omega
    have e := ih (i + 1) (by omega)
    rw [dk_sm] at e
    refine sg_10_4 ⟨rfl, rfl, rfl, rfl, rfl, rfl, trivial⟩ rfl ?_
    simp (disch := omega) only [↓reduceIte, cI_lt, cI_nat, cI_add, le_F, or_self, Nat.not_lt_zero, hi8, hc i hi8]
    exact dk_ex_run e
theorem md_103_45 {m : dkM} {l : Int64} {k q : Nat} (hc : ∀ c, c < 8 → m (13, 23, 0) c = cI (E c).length) : ∀ (j i : Nat), i + j = 8 → dk_Ev L (103, 45, [(3, vI (cI i)), (2, vI (cI (dk_sm (fun c => (E c).length) i))), (0, vR (12, 0, 0))], [], (m, l, .inl (), k, q)) ((m, l, .inl (), k, q), .inl (some (vI (cI (dk_sm (fun c => (E c).length) 8))))) := by
  intro j
  induction j with
  | zero =>
    intro i hi
    have hi : i = 8 := by omega
    subst hi
    refine sg_103_45 ⟨rfl, rfl, rfl, rfl, rfl, rfl, trivial⟩ rfl ?_
    simp (disch := omega) only [↓reduceIte, cI_lt, Nat.lt_irrefl]
    exact dk_ex_some
  | succ j ih =>
    intro i hi
    have hi8 : i < 8 := by omega
    have e := ih (i + 1) (by omega)
    rw [dk_sm] at e
    refine sg_103_45 ⟨rfl, rfl, rfl, rfl, rfl, rfl, trivial⟩ rfl ?_
    simp (disch := omega) only [↓reduceIte, cI_lt, cI_nat, cI_add, le_F, or_self, Nat.not_lt_zero, hi8, hc i hi8]
    exact dk_ex_run e
theorem md_103_71 {z : Nat} {f : Nat → Bool} {m : dkM} {l : Int64} {k q : Nat} (hz : z ≤ 1) (h0 : ∀ p, p < 16 → m (16, 2, 0) p = cI (N 0 p) ∧ N 0 p ≤ 1 ∧ m (13, 6, 0) p = cI (N 3 p) ∧ N 3 p ≤ 9) (hf : ∀ p, p < 16 → (f p = true ↔ (N 0 p = 1 ∧ (z = 0 ∨ N 3 p ≠ 9)))) : ∀ (j i : Nat), i + j = 16 → dk_Ev L (103, 71, [(3, vI (cI i)), (2, vI (cI (dk_cn f i))), (0, vR (12, 0, 0)), (1, vI (cI z))], [], (m, l, .inl (), k, q)) ((m, l, .inl (), k, q), .inl (some (vI (cI (dk_cn f 16))))) := by
  intro j
  induction j with
  | zero =>
    intro i hi
    have hi : i = 16 := by omega
    subst hi
    refine sg_103_71 ⟨rfl, rfl, rfl, rfl, rfl, rfl, rfl, rfl, trivial⟩ rfl ?_
    simp (disch := omega) only [↓reduceIte, cI_lt, Nat.lt_irrefl]
    exact dk_ex_some
  | succ j ih =>
    intro i hi
    have hi16 : i < 16 := by omega
    obtain ⟨l0, b0, c7, b3⟩ := h0 i hi16
    have hfi := hf i hi16
    have e := ih (i + 1) (by omega)
    refine sg_103_71 ⟨rfl, rfl, rfl, rfl, rfl, rfl, rfl, rfl, trivial⟩ rfl ?_
    by_cases a0 : N 0 i = 0
    · have ff : f i = false := by
        cases hb : f i with
        | false => rfl
        | true => have := (hfi.1 hb).1; omega
      rw [cn_0 ff] at e
      simp (disch := omega) only [↓reduceIte, cI_lt, cI_nat, cI_inj, cI_add, Nat.add_zero, le_F, or_self, Nat.not_lt_zero, hi16, l0, a0]
      exact dk_ex_run e
    · have a1 : N 0 i = 1 := by omega
      by_cases hz0 : z = 0
      · subst hz0
        rw [cn_1 (hfi.2 ⟨a1, Or.inl rfl⟩)] at e
        simp (disch := omega) only [↓reduceIte, cI_lt, cI_nat, cI_inj, cI_add, le_F, or_self, Nat.not_lt_zero, hi16, l0, a0]
        exact dk_ex_run e
      · by_cases h9 : N 3 i = 9
        · have ff : f i = false := by
            cases hb : f i with
            | false => rfl
            | true => have := (hfi.1 hb).2; omega
          rw [cn_0 ff] at e
          simp (disch := omega) only [↓reduceIte, cI_lt, cI_nat, cI_inj, cI_add, Nat.add_zero, le_F, or_self, Nat.not_lt_zero, hi16, l0, a0, hz0, c7, h9]
          exact dk_ex_run e
        · rw [cn_1 (hfi.2 ⟨a1, Or.inr h9⟩)] at e
          simp (disch := omega) only [↓reduceIte, cI_lt, cI_nat, cI_inj, cI_add, le_F, or_self, Nat.not_lt_zero, hi16, l0, a0, hz0, c7, h9]
          exact dk_ex_run e
/-- count -/
theorem bo_count (x : Int32) (h : IV N E W T n) (hn : n + 1 ≤ 512) : dk_Bd L 11 [(0, vR (0, 0, 0)), (1, vI x)] 103 [(0, vR (12, 0, 0)), (1, vI x)] N V E W T n := by
  have fin : ∀ b : Int32, (∀ (m : dkM) (l : Int64) (k q : Nat), PC N V E W T m → dk_Ev L (11, 0, [(0, vR (0, 0, 0)), (1, vI x)], [], (m, l, .inl (), k, q)) ((m, l, .inl (), k, q), .inl (some (vI b)))) → (∀ (m : dkM) (l : Int64) (k q : Nat), PM N V E W T m → dk_Ev L (103, 0, [(0, vR (12, 0, 0)), (1, vI x)], [], (m, l, .inl (), k, q)) ((dk_up m (12, 0, 0) 0 (cI 0), l, .inl (), k, q), .inl (some (vI b)))) → dk_Bd L 11 [(0, vR (0, 0, 0)), (1, vI x)] 103 [(0, vR (12, 0, 0)), (1, vI x)] N V E W T n := fun b e1 e2 =>
    ⟨N, T, b, fun m l k q hC => ⟨m, e1 m l k q hC, hC, FrC_refl⟩, fun m l k q hM => ⟨_, e2 m l k q hM, (PM_thr' hM).1, (PM_thr' hM).2⟩, IV_up h (by omega) hn⟩
  rcases cI_cases x with hx | ⟨z, hz0, rfl⟩
  · refine fin (cJ 0) (fun m l k q hC => sg_11_0 ⟨rfl, rfl, rfl, rfl, trivial⟩ rfl ?_) (fun m l k q hM => sg_103_0 ⟨rfl, rfl, rfl, rfl, trivial⟩ rfl ?_)
    · simp (disch := omega) only [↓reduceIte, cI_neg_ne hx]; exact dk_ex_some
    · simp only [↓reduceIte, hx]; exact dk_ex_some
  by_cases hz : z ≤ 4
  rotate_left
  · have z4 : 4 < z := by omega
    have n0 : ¬ z = 0 := by omega
    have n1 : ¬ z = 1 := by omega
    have n2 : ¬ z = 2 := by omega
    have n3 : ¬ z = 3 := by omega
    have n4 : ¬ z = 4 := by omega
    refine fin (cJ 0) (fun m l k q hC => sg_11_0 ⟨rfl, rfl, rfl, rfl, trivial⟩ rfl ?_) (fun m l k q hM => sg_103_0 ⟨rfl, rfl, rfl, rfl, trivial⟩ rfl ?_)
    · simp (disch := omega) only [↓reduceIte, cI_inj, n0, n1, n2, n3, n4]; exact dk_ex_some
    · simp (disch := omega) only [↓reduceIte, cI_lt, Nat.not_lt_zero, z4]; exact dk_ex_some
  have hb0 : ∀ p, p < 16 → N 0 p ≤ 1 := fun p hp => (h.1 p hp).1
  have hb3 : ∀ p, p < 16 → N 3 p ≤ 9 := fun p hp => (h.1 p hp).2.2.2.1
  have hm : ∀ (m : dkM), PM N V E W T m → ∀ p, p < 16 → m (16, 2, 0) p = cI (N 0 p) ∧ N 0 p ≤ 1 ∧ m (13, 6, 0) p = cI (N 3 p) ∧ N 3 p ≤ 9 := fun m hM p hp => ⟨(hM.1 p hp).1, hb0 p hp, (hM.1 p hp).2.2.2.1, hb3 p hp⟩
  have hzc : z = 0 ∨ z = 1 ∨ z = 2 ∨ z = 3 ∨ z = 4 := by omega
  rcases hzc with rfl | rfl | rfl | rfl | rfl
  · refine fin (cI (dk_cn (fun p => N 0 p == 1) 16)) (fun m l k q hC => sg_11_0 ⟨rfl, rfl, rfl, rfl, trivial⟩ rfl ?_) (fun m l k q hM => sg_103_0 ⟨rfl, rfl, rfl, rfl, trivial⟩ rfl ?_)
    · have e : m (0, 0, 0) 4 = cI (dk_cn (fun p => N 0 p == 1) 16) := hC.2.2.2.2.2.1
      simp (disch := omega) only [↓reduceIte, cI_inj, e]; exact dk_ex_some
    · simp (disch := omega) only [↓reduceIte, cI_lt, cI_inj, Nat.not_lt_zero, Nat.reduceEqDiff]
      exact dk_ex_run (md_103_71 (L := L) (N := N) (z := 0) (f := fun p => N 0 p == 1) (by omega) (hm _ (PM_thr' hM).1) (fun p hp => by simp) 16 0 rfl)
  · refine fin (cI (dk_cn (fun r => N 3 r != 9) 16)) (fun m l k q hC => sg_11_0 ⟨rfl, rfl, rfl, rfl, trivial⟩ rfl ?_) (fun m l k q hM => sg_103_0 ⟨rfl, rfl, rfl, rfl, trivial⟩ rfl ?_)
    · simp (disch := omega) only [↓reduceIte, cI_inj, Nat.reduceEqDiff]
      exact dk_ex_run (kv_11_42 (sg_9_0 ⟨rfl, rfl, trivial⟩ rfl (dk_ex_run (cl_9_loop (L := L) (N := N) (fun p hp => ⟨(hC.1 p hp).2.2.2.2.1, hb3 p hp⟩) 16 0 rfl))) (sg_11_45 trivial rfl dk_ex_some))
    · simp (disch := omega) only [↓reduceIte, cI_lt, cI_inj, Nat.not_lt_zero, Nat.reduceEqDiff, Nat.reduceLT]
      refine dk_ex_run (md_103_71 (L := L) (N := N) (z := 1) (f := fun r => N 3 r != 9) (by omega) (hm _ (PM_thr' hM).1) (fun p hp => ?_) 16 0 rfl)
      have h9 := (h.2.2.1 p hp).1
      have h0 := hb0 p hp
      have h1 : N 3 p ≠ 9 → N 0 p = 1 := fun hh => by
        by_cases e : N 0 p = 0
        · exact absurd (h9 e) hh
        · omega
      simpa using h1
  · refine fin (cI W.length) (fun m l k q hC => sg_11_0 ⟨rfl, rfl, rfl, rfl, trivial⟩ rfl ?_) (fun m l k q hM => sg_103_0 ⟨rfl, rfl, rfl, rfl, trivial⟩ rfl ?_)
    · have e : m (9, 0, 0) 5 = cI W.length := hC.2.2.2.1.1
      simp (disch := omega) only [↓reduceIte, cI_inj, e, Nat.reduceEqDiff]; exact dk_ex_some
    · have e : m (12, 0, 0) 26 = cI W.length := hM.2.2.2.1.1
      simp (disch := omega) only [↓reduceIte, cI_lt, cI_inj, Nat.not_lt_zero, Nat.reduceEqDiff, Nat.reduceLT, e, dk_up_f]; exact dk_ex_some
  · refine fin (cI (dk_sm (fun c => (E c).length) 8)) (fun m l k q hC => sg_11_0 ⟨rfl, rfl, rfl, rfl, trivial⟩ rfl ?_) (fun m l k q hM => sg_103_0 ⟨rfl, rfl, rfl, rfl, trivial⟩ rfl ?_)
    · simp (disch := omega) only [↓reduceIte, cI_inj, Nat.reduceEqDiff]
      exact dk_ex_run (kv_11_55 (sg_10_0 ⟨rfl, rfl, trivial⟩ rfl (dk_ex_run (cl_10_loop (L := L) (E := E) (fun c hc => (hC.2.2.1 c hc).1) 8 0 rfl))) (sg_11_58 trivial rfl dk_ex_some))
    · simp (disch := omega) only [↓reduceIte, cI_lt, cI_inj, Nat.not_lt_zero, Nat.reduceEqDiff, Nat.reduceLT]
      exact dk_ex_run (dk_ev_ls (md_103_45 (L := L) (E := E) (fun c hc => ((PM_thr' hM).1.2.2.1 c hc).1) 8 0 rfl) ⟨rfl, rfl, rfl, rfl, rfl, rfl, trivial⟩ rfl)
  · refine fin (cI T) (fun m l k q hC => sg_11_0 ⟨rfl, rfl, rfl, rfl, trivial⟩ rfl ?_) (fun m l k q hM => sg_103_0 ⟨rfl, rfl, rfl, rfl, trivial⟩ rfl ?_)
    · have e : m (0, 0, 0) 5 = cI T := hC.2.2.2.2.1
      simp (disch := omega) only [↓reduceIte, cI_inj, e, Nat.reduceEqDiff]; exact dk_ex_some
    · have e : m (12, 0, 0) 1 = cI T := hM.2.2.2.2
      simp (disch := omega) only [↓reduceIte, cI_lt, cI_inj, Nat.not_lt_zero, Nat.reduceEqDiff, Nat.lt_irrefl, e, dk_up_f]; exact dk_ex_some
end
