/-! finish on both sides -/
section
variable {L : Nat} {N : dkNN} {V : dkVV} {E : dkEE} {W : dkWW} {T n : Nat}
theorem n30' : ¬ (3 : Nat) = 0 := by decide
theorem bo_finish (x : Int32) (h : IV N E W T n) (hn : n + 1 ≤ 512) : dk_Bo L 60 [(0, vR (0, 0, 0)), (1, vI x), (2, vR (14, 0, 0))] 98 [(0, vR (12, 0, 0)), (1, vI x)] N V E W T n dk_Ri := by
  have hB := IV_BD h
  rcases cI_cases x with hx | ⟨p, hp0, rfl⟩
  · refine bo_ref h hn (cl_ref (c := 1) (by decide) (fun m l k q hq hC => sg_60_0 ⟨rfl, rfl, rfl, rfl, rfl, rfl, trivial⟩ rfl (dk_ex_run (kc_60_4_1 (sg_59_0 ⟨rfl, rfl, rfl, rfl, trivial⟩ rfl ?_) (sg_60_13 trivial rfl dk_ex_some))))) (mo_1 (fun m l k q hM => sg_98_0 ⟨rfl, rfl, rfl, rfl, trivial⟩ rfl ?_))
    · simp only [↓reduceIte, hx, hq]; exact dk_ex_some
    · simp only [↓reduceIte, hx, dk_up_eq, n10]; exact dk_ex_some
  by_cases hp : p < 16
  rotate_left
  · have hp2 : 15 < p := by omega
    refine bo_ref h hn (cl_ref (c := 1) (by decide) (fun m l k q hq hC => sg_60_0 ⟨rfl, rfl, rfl, rfl, rfl, rfl, trivial⟩ rfl (dk_ex_run (kc_60_4_1 (sg_59_0 ⟨rfl, rfl, rfl, rfl, trivial⟩ rfl ?_) (sg_60_13 trivial rfl dk_ex_some))))) (mo_1 (fun m l k q hM => sg_98_0 ⟨rfl, rfl, rfl, rfl, trivial⟩ rfl ?_))
    · simp (disch := omega) only [↓reduceIte, cI_lt, Nat.not_lt_zero, hp, hq]; exact dk_ex_some
    · simp (disch := omega) only [↓reduceIte, cI_lt, Nat.not_lt_zero, hp2, dk_up_eq, n10]; exact dk_ex_some
  have hp2 : ¬ 15 < p := by omega
  have b := h.1 p hp
  have b0 : N 0 p ≤ 1 := b.1
  have b3 : N 3 p ≤ 9 := b.2.2.2.1
  have b4 : N 4 p ≤ 3 := b.2.2.2.2.1
  by_cases h0 : N 0 p = 0
  · refine bo_ref h hn (cl_ref (c := 2) (by decide) (fun m l k q hq hC => sg_60_0 ⟨rfl, rfl, rfl, rfl, rfl, rfl, trivial⟩ rfl (dk_ex_run (kc_60_4_2 (sg_59_0 ⟨rfl, rfl, rfl, rfl, trivial⟩ rfl ?_) (sg_60_16 trivial rfl dk_ex_some))))) (mo_1 (fun m l k q hM => sg_98_0 ⟨rfl, rfl, rfl, rfl, trivial⟩ rfl ?_))
    · have e3 : m (2, p, 0) 3 = cI 0 := by rw [(hC.1 p hp).2.1, h0]
      simp (disch := omega) only [↓reduceIte, cI_lt, cI_nat, le_F, or_self, Nat.not_lt_zero, hp, e3, hq]; exact dk_ex_some
    · have f2 : m (16, 2, 0) p = cI 0 := by rw [(hM.1 p hp).1, h0]
      simp (disch := omega) only [↓reduceIte, cI_lt, cI_nat, le_F, or_self, Nat.not_lt_zero, hp2, f2, dk_up_eq, n20]; exact dk_ex_some
  have h0 : N 0 p = 1 := by omega
  have hc3 : ∀ (m : dkM), PC N V E W T m → m (2, p, 0) 3 = cI 1 := fun m hC => by rw [(hC.1 p hp).2.1, h0]
  have hm2 : ∀ (m : dkM), PM N V E W T m → m (16, 2, 0) p = cI 1 := fun m hM => by rw [(hM.1 p hp).1, h0]
  have e7c : ∀ (m : dkM), PC N V E W T m → m (2, p, 0) 7 = cI (N 3 p) := fun m hC => (hC.1 p hp).2.2.2.2.1
  have e7m : ∀ (m : dkM), PM N V E W T m → m (13, 6, 0) p = cI (N 3 p) := fun m hM => (hM.1 p hp).2.2.2.1
  have k4 : ∀ (m : dkM), PC N V E W T m → m (3, p, 0) 0 = cI (N 4 p) := fun m hC => (hC.1 p hp).2.2.2.2.2.1
  have j4 : ∀ (m : dkM), PM N V E W T m → m (13, 3, 0) p = cI (N 4 p) := fun m hM => (hM.1 p hp).2.2.2.2.1
  by_cases hE : N 3 p = 8 ∨ ((N 3 p ≤ 2 ∨ N 3 p = 7) ∧ (N 4 p = 0 ∨ N 4 p = 3))
  · have hi8 : N 3 p = 8 → N 4 p = 0 ∨ N 4 p = 3 := (h.2.2.1 p hp).2.2.2.1
    have h4 : N 4 p = 0 ∨ N 4 p = 3 := by
      rcases hE with hE | hE
      · exact hi8 hE
      · exact hE.2
    have h3 : N 3 p = 0 ∨ N 3 p = 1 ∨ N 3 p = 2 ∨ N 3 p = 7 ∨ N 3 p = 8 := by omega
    have fin : ∀ w : Int32, (∀ (m m' : dkM) (l : Int64) (k q : Nat), PC N V E W T m → dk_Ev L (55, 0, [(0, vR (0, 0, 0)), (1, vR (2, p, 0))], [], (m, l, .inl (), k, q)) ((m', l, .inl (), k, q), .inl none) → dk_Ev L (59, 0, [(0, vR (0, 0, 0)), (1, vI (cI p))], [], (m, l, .inl (), k, q)) ((m', l, .inl (), k, q), .inl (some (vI w)))) → (∀ (m m' : dkM) (l : Int64) (k q : Nat), PM N V E W T m → dk_Ev L (96, 0, [(0, vR (12, 0, 0)), (1, vI (cI p))], [], (dk_up m (12, 0, 0) 0 (cI 0), l, .inl (), k, q)) ((m', l, .inl (), k, q), .inl none) → dk_Ev L (98, 0, [(0, vR (12, 0, 0)), (1, vI (cI p))], [], (m, l, .inl (), k, q)) ((m', l, .inl (), k, q), .inl (some (vI w)))) → dk_Bo L 60 [(0, vR (0, 0, 0)), (1, vI (cI p)), (2, vR (14, 0, 0))] 98 [(0, vR (12, 0, 0)), (1, vI (cI p))] N V E W T n dk_Ri := fun w e1 e2 => by
      refine ⟨nE N p, V, dk_rm E p, W, T, 0, w.toInt64, some (vI w), fun m l k q hq hC => ?_, mo_3 (fun m l k q hM => ?_), IV_end hp h (by omega) hn, w, rfl, rfl⟩
      · obtain ⟨m', e, hC', hF⟩ := cl_end (L := L) (l := l) (k := k) (q := q) hp hC hB
        exact ⟨m', _, q, sg_60_0 ⟨rfl, rfl, rfl, rfl, rfl, rfl, trivial⟩ rfl (dk_ex_run (kv_60_4 (e1 m m' l k q hC e) (sg_60_7 trivial rfl dk_ex_some))), hC', hF, by omega, fun _ => rfl⟩
      · obtain ⟨m', e, hM', hF⟩ := md_end (L := L) (l := l) (k := k) (q := q) hp (PM_thr (z := cI 0) hM) hB
        exact ⟨m', e2 m m' l k q hM e, hM', hF⟩
    rcases h4 with h4 | h4
    · refine fin (cJ 0) (fun m m' l k q hC e => sg_59_0 ⟨rfl, rfl, rfl, rfl, trivial⟩ rfl ?_) (fun m m' l k q hM e => sg_98_0 ⟨rfl, rfl, rfl, rfl, trivial⟩ rfl ?_)
      · rcases h3 with h3 | h3 | h3 | h3 | h3 <;> simp (disch := omega) only [↓reduceIte, cI_lt, cI_nat, cI_inj, le_F, or_self, Nat.not_lt_zero, Nat.reduceEqDiff, hp, hc3 m hC, e7c m hC, k4 m hC, h3, h4] <;> exact dk_ex_run (kv_59_33 e (sg_59_36 ⟨rfl, rfl, trivial⟩ rfl dk_ex_some))
      · rcases h3 with h3 | h3 | h3 | h3 | h3 <;> simp (disch := omega) only [↓reduceIte, cI_lt, cI_nat, cI_inj, le_F, or_self, Nat.not_lt_zero, Nat.reduceEqDiff, hp2, hm2 m hM, dk_up_eq, dk_up_k, e7m m hM, j4 m hM, h3, h4] <;> exact dk_ex_run (kv_98_58 e (sg_98_61 ⟨rfl, rfl, trivial⟩ rfl dk_ex_some))
    · refine fin (cI (N 14 p)) (fun m m' l k q hC e => sg_59_0 ⟨rfl, rfl, rfl, rfl, trivial⟩ rfl ?_) (fun m m' l k q hM e => sg_98_0 ⟨rfl, rfl, rfl, rfl, trivial⟩ rfl ?_)
      · have e3 : m (3, p, 0) 3 = cI (N 14 p) := ((hC.1 p hp).2.2.2.2.2.2.2.2.2.2.2.2 (Or.inl h4)).1
        rcases h3 with h3 | h3 | h3 | h3 | h3 <;> simp (disch := omega) only [↓reduceIte, cI_lt, cI_nat, cI_inj, le_F, or_self, Nat.not_lt_zero, Nat.reduceEqDiff, hp, hc3 m hC, e7c m hC, k4 m hC, h3, h4, e3] <;> exact dk_ex_run (kv_59_33 e (sg_59_36 ⟨rfl, rfl, trivial⟩ rfl dk_ex_some))
      · have e3 : m (13, 7, 0) p = cI (N 14 p) := ((hM.1 p hp).2.2.2.2.2.2.2.2.2.2.2.1 h4).1
        rcases h3 with h3 | h3 | h3 | h3 | h3 <;> simp (disch := omega) only [↓reduceIte, cI_lt, cI_nat, cI_inj, le_F, or_self, Nat.not_lt_zero, Nat.reduceEqDiff, hp2, hm2 m hM, dk_up_eq, dk_up_k, e7m m hM, j4 m hM, h3, h4, e3] <;> exact dk_ex_run (kv_98_58 e (sg_98_61 ⟨rfl, rfl, trivial⟩ rfl dk_ex_some))
  · have h3 : N 3 p = 0 ∨ N 3 p = 1 ∨ N 3 p = 2 ∨ N 3 p = 3 ∨ N 3 p = 4 ∨ N 3 p = 5 ∨ N 3 p = 6 ∨ N 3 p = 7 ∨ N 3 p = 9 := by omega
    have n43 : (N 3 p ≤ 2 ∨ N 3 p = 7) → ¬ N 4 p = 3 := fun h => by omega
    have n40 : (N 3 p ≤ 2 ∨ N 3 p = 7) → ¬ N 4 p = 0 := fun h => by omega
    refine bo_ref h hn (cl_ref (c := 3) (by decide) (fun m l k q hq hC => sg_60_0 ⟨rfl, rfl, rfl, rfl, rfl, rfl, trivial⟩ rfl (dk_ex_run (kc_60_4_4 (sg_59_0 ⟨rfl, rfl, rfl, rfl, trivial⟩ rfl ?_) (sg_60_19 trivial rfl dk_ex_some))))) (mo_2 (fun m l k q hM => sg_98_0 ⟨rfl, rfl, rfl, rfl, trivial⟩ rfl ?_))
    · rcases h3 with h3 | h3 | h3 | h3 | h3 | h3 | h3 | h3 | h3 <;> rw [h3] at n43 n40 <;> simp (disch := omega) only [↓reduceIte, cI_lt, cI_nat, cI_inj, le_F, or_self, Nat.not_lt_zero, Nat.reduceEqDiff, hp, hc3 m hC, e7c m hC, k4 m hC, h3, n43, n40, hq] <;> exact dk_ex_some
    · rcases h3 with h3 | h3 | h3 | h3 | h3 | h3 | h3 | h3 | h3 <;> rw [h3] at n43 n40 <;> simp (disch := omega) only [↓reduceIte, cI_lt, cI_nat, cI_inj, le_F, or_self, Nat.not_lt_zero, Nat.reduceEqDiff, hp2, hm2 m hM, dk_up_eq, dk_up_k, e7m m hM, j4 m hM, h3, n43, n40] <;> exact dk_ex_some
end
