/-! guard and step on both sides -/
section
variable {L : Nat} {N : dkNN} {V : dkVV} {E : dkEE} {W : dkWW} {T n : Nat}
theorem PC_guard {p a b o : Nat} {x : Int32} {m : dkM} (hC : PC N V E W T m) (hp : p < 16) (h4 : N 1 p < 4) (h9 : N 3 p = 9) : PC (nG N p a b o) (vU V 0 (4 * p + N 1 p) x) E W T (dk_up (dk_up (dk_up (dk_up (dk_up m (5, p, N 1 p) 0 (cI a)) (5, p, N 1 p) 1 (cI b)) (5, p, N 1 p) 2 x) (5, p, N 1 p) 3 (cI o)) (2, p, 0) 4 (cI (N 1 p + 1))) := by
  obtain ⟨h1, h2, h3, h4', h5, h6⟩ := hC
  refine ⟨fun r hr => ?_, fun r hr g hg => ?_, fun c hc => ?_, ?_, ?_, ?_⟩
  · have := h1 r hr
    by_cases e : r = p
    · subst e
      simp [PCp, dk_up, nG, nU, vU, h9] at this ⊢
      simp [this]
      exact this.2.2.2.2.2.2.2.2
    · simpa [PCp, dk_up, nG, nU, vU, e] using this
  · have := h2 r hr g hg
    by_cases e : r = p
    · subst e
      by_cases e2 : g = N 1 r
      · subst e2
        simp [PCg, dk_up, nG, nU, vU]
      · have e3 : ¬ 4 * r + g = 4 * r + N 1 r := by omega
        simpa [PCg, dk_up, nG, nU, vU, e2, e3] using this
    · have e3 : ¬ 4 * r + g = 4 * p + N 1 p := by omega
      simpa [PCg, dk_up, nG, nU, vU, e, e3] using this
  · simpa [PCl, dk_up] using h3 c hc
  · simpa [PCw, dk_up] using h4'
  · simpa [dk_up] using h5
  · simpa [PCv, dk_lv, dk_up, nG, nU] using h6
theorem PM_guard {p a b o : Nat} {x : Int32} {m : dkM} (hM : PM N V E W T m) (h9 : N 3 p = 9) : PM (nG N p a b o) (vU V 0 (4 * p + N 1 p) x) E W T (dk_up (dk_up (dk_up (dk_up (dk_up m (13, 11, 0) (4 * p + N 1 p) (cI a)) (13, 12, 0) (4 * p + N 1 p) (cI b)) (13, 13, 0) (4 * p + N 1 p) x) (16, 14, 0) (4 * p + N 1 p) (cI o)) (13, 10, 0) p (cI (N 1 p + 1))) := by
  obtain ⟨h1, h2, h3, h4, h5⟩ := hM
  refine ⟨fun r hr => ?_, fun i hi => ?_, fun c hc => ?_, ?_, ?_⟩
  · have := h1 r hr
    by_cases e : r = p
    · subst e
      simp [PMp, dk_up, nG, nU, vU, h9] at this ⊢
      simp [this]
      exact this.2.2.2.2.2.2.2
    · simpa [PMp, dk_up, nG, nU, vU, e] using this
  · have := h2 i hi
    by_cases e : i = 4 * p + N 1 p
    · subst e
      simp [PMg, dk_up, nG, nU, vU]
    · simpa [PMg, dk_up, nG, nU, vU, e] using this
  · simpa [PMl, dk_up] using h3 c hc
  · simpa [PMw, dk_up] using h4
  · simpa [dk_up] using h5
theorem n01 : ¬ cI 0 = cI 1 := by decide
/-- guard -/
theorem bo_guard (x kd ch v : Int32) (o : Nat) (ho : o ≤ 1) (h : IV N E W T n) (hn : n + 1 ≤ 512) : dk_Bo L 20 [(0, vR (0, 0, 0)), (1, vI x), (2, vI kd), (3, vI ch), (4, vI v), (5, vI (cI o)), (6, vR (14, 0, 0))] 78 [(0, vR (12, 0, 0)), (1, vI x), (2, vI kd), (3, vI ch), (4, vI v), (5, vI (cI o))] N V E W T n dk_Ri := by
  rcases cI_cases x with hx | ⟨p, hp0, rfl⟩
  · refine bo_ref h hn (cl_ref (c := 1) (by decide) (fun m l k q hq hC => sg_20_0 ⟨rfl, rfl, rfl, rfl, rfl, rfl, rfl, rfl, rfl, rfl, rfl, rfl, rfl, rfl, trivial⟩ rfl ?_)) (mo_1 (fun m l k q hM => sg_78_0 ⟨rfl, rfl, rfl, rfl, rfl, rfl, rfl, rfl, rfl, rfl, rfl, rfl, trivial⟩ rfl ?_))
    · simp only [↓reduceIte, hx, hq]; exact dk_ex_some
    · simp only [↓reduceIte, hx, dk_up_eq, n10]; exact dk_ex_some
  by_cases hp : p < 16
  rotate_left
  · have hp2 : 15 < p := by omega
    refine bo_ref h hn (cl_ref (c := 1) (by decide) (fun m l k q hq hC => sg_20_0 ⟨rfl, rfl, rfl, rfl, rfl, rfl, rfl, rfl, rfl, rfl, rfl, rfl, rfl, rfl, trivial⟩ rfl ?_)) (mo_1 (fun m l k q hM => sg_78_0 ⟨rfl, rfl, rfl, rfl, rfl, rfl, rfl, rfl, rfl, rfl, rfl, rfl, trivial⟩ rfl ?_))
    · simp (disch := omega) only [↓reduceIte, cI_lt, Nat.not_lt_zero, hp, hq]; exact dk_ex_some
    · simp (disch := omega) only [↓reduceIte, cI_lt, Nat.not_lt_zero, hp2, dk_up_eq, n10]; exact dk_ex_some
  have hp2 : ¬ 15 < p := by omega
  have b := h.1 p hp
  have b0 : N 0 p ≤ 1 := b.1
  have b1 : N 1 p ≤ 4 := b.2.1
  have b3 : N 3 p ≤ 9 := b.2.2.2.1
  by_cases h0 : N 0 p = 0
  · refine bo_ref h hn (cl_ref (c := 2) (by decide) (fun m l k q hq hC => sg_20_0 ⟨rfl, rfl, rfl, rfl, rfl, rfl, rfl, rfl, rfl, rfl, rfl, rfl, rfl, rfl, trivial⟩ rfl ?_)) (mo_1 (fun m l k q hM => sg_78_0 ⟨rfl, rfl, rfl, rfl, rfl, rfl, rfl, rfl, rfl, rfl, rfl, rfl, trivial⟩ rfl ?_))
    · have e3 : m (2, p, 0) 3 = cI 0 := by rw [(hC.1 p hp).2.1, h0]
      simp (disch := omega) only [↓reduceIte, cI_lt, cI_nat, le_F, or_self, Nat.not_lt_zero, hp, e3, hq]; exact dk_ex_some
    · have f2 : m (16, 2, 0) p = cI 0 := by rw [(hM.1 p hp).1, h0]
      simp (disch := omega) only [↓reduceIte, cI_lt, cI_nat, le_F, or_self, Nat.not_lt_zero, hp2, f2, dk_up_eq, n20]; exact dk_ex_some
  have h0 : N 0 p = 1 := by omega
  have hc3 : ∀ (m : dkM), PC N V E W T m → m (2, p, 0) 3 = cI 1 := fun m hC => by rw [(hC.1 p hp).2.1, h0]
  have hm2 : ∀ (m : dkM), PM N V E W T m → m (16, 2, 0) p = cI 1 := fun m hM => by rw [(hM.1 p hp).1, h0]
  have r3 : (∀ (m : dkM) (l : Int64) (k q : Nat), q < 600 → PC N V E W T m → dk_Ev L (20, 0, [(0, vR (0, 0, 0)), (1, vI (cI p)), (2, vI kd), (3, vI ch), (4, vI v), (5, vI (cI o)), (6, vR (14, 0, 0))], [], (m, l, .inl (), k, q)) ((m, l, .inl (), k, q + 1), .inl (some (vI (cI 3))))) → (∀ (m : dkM) (l : Int64) (k q : Nat), PM N V E W T m → dk_Ev L (78, 0, [(0, vR (12, 0, 0)), (1, vI (cI p)), (2, vI kd), (3, vI ch), (4, vI v), (5, vI (cI o))], [], (m, l, .inl (), k, q)) ((dk_up (dk_up m (12, 0, 0) 0 (cI 0)) (12, 0, 0) 0 (cI 3), l, .inl (), k, q), .inl (some (vI (cI 0))))) → dk_Bo L 20 [(0, vR (0, 0, 0)), (1, vI (cI p)), (2, vI kd), (3, vI ch), (4, vI v), (5, vI (cI o)), (6, vR (14, 0, 0))] 78 [(0, vR (12, 0, 0)), (1, vI (cI p)), (2, vI kd), (3, vI ch), (4, vI v), (5, vI (cI o))] N V E W T n dk_Ri := fun h1 h2 => bo_ref h hn (cl_ref (by decide) h1) (mo_2 h2)
  rcases cI_cases kd with hk | ⟨a, ha0, rfl⟩
  · refine r3 (fun m l k q hq hC => sg_20_0 ⟨rfl, rfl, rfl, rfl, rfl, rfl, rfl, rfl, rfl, rfl, rfl, rfl, rfl, rfl, trivial⟩ rfl ?_) (fun m l k q hM => sg_78_0 ⟨rfl, rfl, rfl, rfl, rfl, rfl, rfl, rfl, rfl, rfl, rfl, rfl, trivial⟩ rfl ?_)
    · simp (disch := omega) only [↓reduceIte, cI_lt, cI_nat, le_F, or_self, Nat.not_lt_zero, hp, hc3 m hC, n10, cI_neg_ne hk, hq]; exact dk_ex_some
    · simp (disch := omega) only [↓reduceIte, cI_lt, cI_nat, le_F, or_self, Nat.not_lt_zero, hp2, hm2 m hM, dk_up_eq, n10, hk]; exact dk_ex_some
  by_cases ha : a ≤ 1
  rotate_left
  · have ha1 : 1 < a := by omega
    have hane0 : ¬ a = 0 := by omega
    have hane1 : ¬ a = 1 := by omega
    refine r3 (fun m l k q hq hC => sg_20_0 ⟨rfl, rfl, rfl, rfl, rfl, rfl, rfl, rfl, rfl, rfl, rfl, rfl, rfl, rfl, trivial⟩ rfl ?_) (fun m l k q hM => sg_78_0 ⟨rfl, rfl, rfl, rfl, rfl, rfl, rfl, rfl, rfl, rfl, rfl, rfl, trivial⟩ rfl ?_)
    · simp (disch := omega) only [↓reduceIte, cI_lt, cI_nat, cI_inj, le_F, or_self, Nat.not_lt_zero, hp, hc3 m hC, Nat.reduceEqDiff, hane0, hane1, hq]; exact dk_ex_some
    · simp (disch := omega) only [↓reduceIte, cI_lt, cI_nat, le_F, or_self, Nat.not_lt_zero, hp2, hm2 m hM, dk_up_eq, n10, ha1]; exact dk_ex_some
  have ha1 : ¬ 1 < a := by omega
  have ha01 : a = 0 ∨ a = 1 := by omega
  rcases cI_cases ch with hc | ⟨c, hc0, rfl⟩
  · refine r3 (fun m l k q hq hC => sg_20_0 ⟨rfl, rfl, rfl, rfl, rfl, rfl, rfl, rfl, rfl, rfl, rfl, rfl, rfl, rfl, trivial⟩ rfl ?_) (fun m l k q hM => sg_78_0 ⟨rfl, rfl, rfl, rfl, rfl, rfl, rfl, rfl, rfl, rfl, rfl, rfl, trivial⟩ rfl ?_)
    · rcases ha01 with rfl | rfl
      · simp (disch := omega) only [↓reduceIte, cI_lt, cI_nat, cI_inj, le_F, or_self, Nat.not_lt_zero, hp, hc3 m hC, Nat.reduceEqDiff, hc, hq]; exact dk_ex_some
      · simp (disch := omega) only [↓reduceIte, cI_lt, cI_nat, cI_inj, le_F, or_self, Nat.not_lt_zero, hp, hc3 m hC, Nat.reduceEqDiff, hc, hq]; exact dk_ex_some
    · simp (disch := omega) only [↓reduceIte, cI_lt, cI_nat, le_F, or_self, Nat.not_lt_zero, hp2, hm2 m hM, dk_up_eq, n10, ha1, hc]; exact dk_ex_some
  by_cases hc : c < 8
  rotate_left
  · have hc7 : 7 < c := by omega
    refine r3 (fun m l k q hq hC => sg_20_0 ⟨rfl, rfl, rfl, rfl, rfl, rfl, rfl, rfl, rfl, rfl, rfl, rfl, rfl, rfl, trivial⟩ rfl ?_) (fun m l k q hM => sg_78_0 ⟨rfl, rfl, rfl, rfl, rfl, rfl, rfl, rfl, rfl, rfl, rfl, rfl, trivial⟩ rfl ?_)
    · rcases ha01 with rfl | rfl
      · simp (disch := omega) only [↓reduceIte, cI_lt, cI_nat, cI_inj, le_F, or_self, Nat.not_lt_zero, hp, hc3 m hC, Nat.reduceEqDiff, hc, hq]; exact dk_ex_some
      · simp (disch := omega) only [↓reduceIte, cI_lt, cI_nat, cI_inj, le_F, or_self, Nat.not_lt_zero, hp, hc3 m hC, Nat.reduceEqDiff, hc, hq]; exact dk_ex_some
    · simp (disch := omega) only [↓reduceIte, cI_lt, cI_nat, le_F, or_self, Nat.not_lt_zero, hp2, hm2 m hM, dk_up_eq, n10, ha1, hc7]; exact dk_ex_some
  have hc7 : ¬ 7 < c := by omega
  have e7c : ∀ (m : dkM), PC N V E W T m → m (2, p, 0) 7 = cI (N 3 p) := fun m hC => (hC.1 p hp).2.2.2.2.1
  have e7m : ∀ (m : dkM), PM N V E W T m → m (13, 6, 0) p = cI (N 3 p) := fun m hM => (hM.1 p hp).2.2.2.1
  have e4c : ∀ (m : dkM), PC N V E W T m → m (2, p, 0) 4 = cI (N 1 p) := fun m hC => (hC.1 p hp).2.2.1
  have e4m : ∀ (m : dkM), PM N V E W T m → m (13, 10, 0) p = cI (N 1 p) := fun m hM => (hM.1 p hp).2.1
  by_cases h9 : N 3 p = 9
  rotate_left
  · refine bo_ref h hn (cl_ref (c := 4) (by decide) (fun m l k q hq hC => sg_20_0 ⟨rfl, rfl, rfl, rfl, rfl, rfl, rfl, rfl, rfl, rfl, rfl, rfl, rfl, rfl, trivial⟩ rfl ?_)) (mo_2 (fun m l k q hM => sg_78_0 ⟨rfl, rfl, rfl, rfl, rfl, rfl, rfl, rfl, rfl, rfl, rfl, rfl, trivial⟩ rfl ?_))
    · rcases ha01 with rfl | rfl
      · simp (disch := omega) only [↓reduceIte, cI_lt, cI_nat, cI_inj, le_F, or_self, Nat.not_lt_zero, hp, hc3 m hC, Nat.reduceEqDiff, hc, e7c m hC, h9, hq]; exact dk_ex_some
      · simp (disch := omega) only [↓reduceIte, cI_lt, cI_nat, cI_inj, le_F, or_self, Nat.not_lt_zero, hp, hc3 m hC, Nat.reduceEqDiff, hc, e7c m hC, h9, hq]; exact dk_ex_some
    · simp (disch := omega) only [↓reduceIte, cI_lt, cI_nat, cI_inj, le_F, or_self, Nat.not_lt_zero, hp2, hm2 m hM, dk_up_eq, dk_up_k, Nat.reduceEqDiff, ha1, hc7, e7m m hM, h9]; exact dk_ex_some
  by_cases h4 : N 1 p < 4
  rotate_left
  · have h4' : N 1 p = 4 := by omega
    refine bo_ref h hn (cl_ref (c := 4) (by decide) (fun m l k q hq hC => sg_20_0 ⟨rfl, rfl, rfl, rfl, rfl, rfl, rfl, rfl, rfl, rfl, rfl, rfl, rfl, rfl, trivial⟩ rfl ?_)) (mo_2 (fun m l k q hM => sg_78_0 ⟨rfl, rfl, rfl, rfl, rfl, rfl, rfl, rfl, rfl, rfl, rfl, rfl, trivial⟩ rfl ?_))
    · rcases ha01 with rfl | rfl
      · simp (disch := omega) only [↓reduceIte, cI_lt, cI_nat, cI_inj, le_F, or_self, Nat.not_lt_zero, hp, hc3 m hC, Nat.reduceEqDiff, hc, e7c m hC, h9, e4c m hC, h4, hq]; exact dk_ex_some
      · simp (disch := omega) only [↓reduceIte, cI_lt, cI_nat, cI_inj, le_F, or_self, Nat.not_lt_zero, hp, hc3 m hC, Nat.reduceEqDiff, hc, e7c m hC, h9, e4c m hC, h4, hq]; exact dk_ex_some
    · simp (disch := omega) only [↓reduceIte, cI_lt, cI_nat, cI_inj, le_F, or_self, Nat.not_lt_zero, hp2, hm2 m hM, dk_up_eq, dk_up_k, Nat.reduceEqDiff, ha1, hc7, e7m m hM, h9, e4m m hM, h4']; exact dk_ex_some
  have h4n : ¬ N 1 p = 4 := by omega
  have hoc : (o = 0 ∨ o = 1) = True := eq_true (by omega)
  refine ⟨nG N p a c o, vU V 0 (4 * p + N 1 p) v, E, W, T, 0, (cI (N 1 p)).toInt64, some (vI (cI (N 1 p))), fun m l k q hq hC => ⟨_, (cI (N 1 p)).toInt64, q, sg_20_0 ⟨rfl, rfl, rfl, rfl, rfl, rfl, rfl, rfl, rfl, rfl, rfl, rfl, rfl, rfl, trivial⟩ rfl ?_, PC_guard hC hp h4 h9, ?_, by omega, fun _ => rfl⟩, fun m l k q hM => ⟨_, sg_78_0 ⟨rfl, rfl, rfl, rfl, rfl, rfl, rfl, rfl, rfl, rfl, rfl, rfl, trivial⟩ rfl ?_, PM_guard (PM_thr (z := cI 0) hM) h9, ?_, ?_⟩, IV_guard hp h h9 h4 ha hc ho hn, _, rfl, rfl⟩
  · rcases ha01 with rfl | rfl
    · simp (disch := omega) only [↓reduceIte, cI_lt, cI_nat, cI_inj, cI_add, cI_sub, le_F, or_self, Nat.not_lt_zero, hp, hc3 m hC, Nat.reduceEqDiff, hc, e7c m hC, h9, e4c m hC, h4, hoc, dk_up_eq, dk_up_k, Nat.add_sub_cancel]; exact dk_ex_some
    · simp (disch := omega) only [↓reduceIte, cI_lt, cI_nat, cI_inj, cI_add, cI_sub, le_F, or_self, Nat.not_lt_zero, hp, hc3 m hC, Nat.reduceEqDiff, hc, e7c m hC, h9, e4c m hC, h4, hoc, dk_up_eq, dk_up_k, Nat.add_sub_cancel]; exact dk_ex_some
  · repeat (first | refine FrC_up (Nat.le_of_ble_eq_true rfl) ?_ | exact FrC_refl)
  · simp (disch := omega) only [↓reduceIte, cI_lt, cI_nat, cI_inj, cI_add, cI_mul, cI_sub, le_F, or_self, Nat.not_lt_zero, hp2, hm2 m hM, dk_up_eq, dk_up_k, dk_up_i, Nat.reduceEqDiff, ha1, hc7, e7m m hM, h9, e4m m hM, h4n, hoc, Nat.add_sub_cancel]; exact dk_ex_some
  · repeat (first | refine FrM_up ⟨Nat.le_of_ble_eq_true rfl, Nat.ne_of_beq_eq_false rfl⟩ ?_ | exact FrM_refl)
  · simp [dk_up]
end
