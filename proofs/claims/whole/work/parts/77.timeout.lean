/-! one call of the law on both sides: the class's helper gives the code c (and out), the reference answers b and holds c in 'thrown' -/
def dk_Two (L : Nat) (m : dkM) (l : Int64) (k q : Nat) (jc : Nat) (ac : dkL) (jm : Nat) (am : dkL) (P : dkM → Prop) : Prop := ∃ (m1 m2 : dkM) (l1 : Int64) (q1 c : Nat) (b : Int32), dk_Ev L (jc, 0, ac, [], (m, l, .inl (), k, q)) ((m1, l1, .inl (), k, q1), .inl (some (vI (cI c)))) ∧ dk_Ev L (jm, 0, am, [], (m1, l1, .inl (), k, q1)) ((m2, l1, .inl (), k, q1), .inl (some (vI b))) ∧ m2 (12, 0, 0) 0 = cI c ∧ c ≤ 4 ∧ (c = 0 → l1 = b.toInt64) ∧ q1 ≤ q + 1 ∧ P m2
theorem PM_thr {N : dkNN} {V : dkVV} {E : dkEE} {W : dkWW} {T : Nat} {m : dkM} {z : Int32} (h : PM N V E W T m) : PM N V E W T (dk_up m (12, 0, 0) 0 z) := by
  obtain ⟨h1, h2, h3, h4, h5⟩ := h
  exact ⟨fun r hr => by simpa [PMp, dk_up] using h1 r hr, fun i hi => by simpa [PMg, dk_up] using h2 i hi, fun c hc => by simpa [PMl, dk_up] using h3 c hc, by simpa [PMw, dk_up] using h4, by simpa [dk_up] using h5⟩
theorem PC_thr {N : dkNN} {V : dkVV} {E : dkEE} {W : dkWW} {T : Nat} {m : dkM} {z : Int32} (h : PC N V E W T m) : PC N V E W T (dk_up m (12, 0, 0) 0 z) :=
  PC_of_FrM (fun a f ha => if_neg (fun e => by rw [e.1] at ha; simp at ha)) h
theorem PC_tmo {N : dkNN} {V : dkVV} {E : dkEE} {W : dkWW} {T : Nat} {m : dkM} {p z : Nat} (hC : PC N V E W T m) : PC (nU N 2 p z) V E W T (dk_up m (2, p, 0) 5 (cI z)) := by
  obtain ⟨h1, h2, h3, h4, h5, h6⟩ := hC
  refine ⟨fun r hr => ?_, fun r hr g hg => ?_, fun c hc => ?_, ?_, ?_, ?_⟩
  · have := h1 r hr
    by_cases e : r = p
    · subst e
      simp [PCp, dk_up, nU] at this ⊢
      first | (simp [this]; done) | (simp_all; done) | grind
    · simpa [PCp, dk_up, nU, e] using this
  · simpa [PCg, dk_up, nU] using h2 r hr g hg
  · simpa [PCl, dk_up] using h3 c hc
  · simpa [PCw, dk_up] using h4
  · simpa [dk_up] using h5
  · simpa [PCv, dk_lv, dk_up, nU] using h6
theorem PM_tmo {N : dkNN} {V : dkVV} {E : dkEE} {W : dkWW} {T : Nat} {m : dkM} {p z : Nat} (hM : PM N V E W T m) : PM (nU N 2 p z) V E W T (dk_up m (13, 15, 0) p (cI z)) := by
  obtain ⟨h1, h2, h3, h4, h5⟩ := hM
  refine ⟨fun r hr => ?_, fun i hi => ?_, fun c hc => ?_, ?_, ?_⟩
  · have := h1 r hr
    by_cases e : r = p
    · subst e
      simp [PMp, dk_up, nU] at this ⊢
      first | (simp [this]; done) | (simp_all; done) | grind
    · simpa [PMp, dk_up, nU, e] using this
  · simpa [PMg, dk_up, nU] using h2 i hi
  · simpa [PMl, dk_up] using h3 c hc
  · simpa [PMw, dk_up] using h4
  · simpa [dk_up] using h5
theorem tw_tmo_ok {L : Nat} {N : dkNN} {V : dkVV} {E : dkEE} {W : dkWW} {T : Nat} {m : dkM} {l : Int64} {k q : Nat} {p z : Nat} (hp : p < 16) (hz : z ≤ 1000) (hC : PC N V E W T m) (hM : PM N V E W T m) (hB : BD N E W T) (h0 : N 0 p = 1) (h3 : N 3 p = 9) : dk_Two L m l k q 23 [(0, vR (0, 0, 0)), (1, vI (cI p)), (2, vI (cI z)), (3, vR (14, 0, 0))] 79 [(0, vR (12, 0, 0)), (1, vI (cI p)), (2, vI (cI z))] (fun m2 => PC (nU N 2 p z) V E W T m2 ∧ PM (nU N 2 p z) V E W T m2) := by
  have hP := hC.1 p hp
  have e3 : m (2, p, 0) 3 = cI 1 := by rw [hP.2.1, h0]
  have e7 : m (2, p, 0) 7 = cI 9 := by rw [hP.2.2.2.2.1, h3]
  have e5 : m (2, p, 0) 5 = cI (N 2 p) := hP.2.2.2.1
  have hQ := hM.1 p hp
  have f2 : m (16, 2, 0) p = cI 1 := by rw [hQ.1, h0]
  have f6 : m (13, 6, 0) p = cI 9 := by rw [hQ.2.2.2.1, h3]
  have f15 : m (13, 15, 0) p = cI (N 2 p) := hQ.2.2.1
  refine ⟨dk_up m (2, p, 0) 5 (cI z), dk_up (dk_up (dk_up m (2, p, 0) 5 (cI z)) (12, 0, 0) 0 (cI 0)) (13, 15, 0) p (cI z), (cI (N 2 p)).toInt64, q, 0, cI (N 2 p), ?_, ?_, ?_, by omega, fun _ => rfl, by omega, ?_, ?_⟩
  · refine sg_23_0 ⟨rfl, rfl, rfl, rfl, rfl, rfl, rfl, rfl, trivial⟩ rfl ?_
    simp (disch := omega) only [cI_lt, cI_nat, cI_inj, e3, e7, e5, if_pos, if_neg, if_true, if_false]
    exact dk_ex_some
  · refine sg_79_0 ⟨rfl, rfl, rfl, rfl, rfl, rfl, trivial⟩ rfl ?_
    simp (disch := omega) only [cI_lt, cI_nat, cI_inj, f2, f6, f15, dk_up_eq, dk_up_k, if_pos, if_neg, if_true, if_false]
    exact dk_ex_some
  · simp [dk_up]
  · refine PC_of_FrM (m := dk_up m (2, p, 0) 5 (cI z)) (fun a f ha => ?_) (PC_tmo hC)
    obtain ⟨a1, a2, a3⟩ := a
    have n1 : a1 ≠ 12 := by simp only at ha; omega
    have n2 : a1 ≠ 13 := by simp only at ha; omega
    simp [dk_up, n1, n2]
  · refine PM_tmo (PM_thr (PM_of_FrC (fun a f ha => ?_) hM))
    obtain ⟨a1, a2, a3⟩ := a
    have n1 : a1 ≠ 2 := by simp only at ha; omega
    simp [dk_up, n1]
theorem n30 : ¬ cI 3 = cI 0 := by decide
theorem n1p {x : Int32} (h : cI 1000 < x) : ¬ x < cI 0 := fun c => by
  rw [Int32.lt_iff_toInt_lt] at h c
  have e0 : (cI 0).toInt = 0 := by decide
  have e1 : (cI 1000).toInt = 1000 := by decide
  omega
section
variable {L : Nat} {N : dkNN} {V : dkVV} {E : dkEE} {W : dkWW} {T : Nat} {m : dkM} {l : Int64} {k q : Nat}
theorem tw_tmo_1 {x t : Int32} (hx : x < cI 0 ∨ (¬ x < cI 0 ∧ ¬ x < cI 16 ∧ cI 15 < x)) (hq : q < 600) (hC : PC N V E W T m) (hM : PM N V E W T m) : dk_Two L m l k q 23 [(0, vR (0, 0, 0)), (1, vI x), (2, vI t), (3, vR (14, 0, 0))] 79 [(0, vR (12, 0, 0)), (1, vI x), (2, vI t)] (fun m2 => PC N V E W T m2 ∧ PM N V E W T m2) := by
  refine ⟨m, dk_up m (12, 0, 0) 0 (cI 1), l, q + 1, 1, cI 0, ?_, ?_, dk_up_eq, by omega, fun h => by omega, by omega, PC_thr hC, PM_thr hM⟩
  · refine sg_23_0 ⟨rfl, rfl, rfl, rfl, rfl, rfl, rfl, rfl, trivial⟩ rfl ?_
    rcases hx with h | ⟨h, h1, h2⟩
    · simp only [if_pos h, if_pos hq]; exact dk_ex_some
    · simp only [if_neg h, if_neg h1, if_pos hq]; exact dk_ex_some
  · refine sg_79_0 ⟨rfl, rfl, rfl, rfl, rfl, rfl, trivial⟩ rfl ?_
    rcases hx with h | ⟨h, h1, h2⟩
    · simp only [if_pos h, dk_up_eq, if_neg n10]; exact dk_ex_some
    · simp only [if_neg h, if_pos h2, dk_up_eq, if_neg n10]; exact dk_ex_some
theorem tw_tmo_2 {p : Nat} {t : Int32} (hp : p < 16) (h0 : N 0 p = 0) (hq : q < 600) (hC : PC N V E W T m) (hM : PM N V E W T m) : dk_Two L m l k q 23 [(0, vR (0, 0, 0)), (1, vI (cI p)), (2, vI t), (3, vR (14, 0, 0))] 79 [(0, vR (12, 0, 0)), (1, vI (cI p)), (2, vI t)] (fun m2 => PC N V E W T m2 ∧ PM N V E W T m2) := by
  have e3 : m (2, p, 0) 3 = cI 0 := by rw [(hC.1 p hp).2.1, h0]
  have f2 : m (16, 2, 0) p = cI 0 := by rw [(hM.1 p hp).1, h0]
  refine ⟨m, dk_up m (12, 0, 0) 0 (cI 2), l, q + 1, 2, cI 0, ?_, ?_, dk_up_eq, by omega, fun h => by omega, by omega, PC_thr hC, PM_thr hM⟩
  · refine sg_23_0 ⟨rfl, rfl, rfl, rfl, rfl, rfl, rfl, rfl, trivial⟩ rfl ?_
    simp (disch := omega) only [cI_lt, cI_nat, cI_inj, e3, if_pos, if_neg, if_true, if_false]
    exact dk_ex_some
  · refine sg_79_0 ⟨rfl, rfl, rfl, rfl, rfl, rfl, trivial⟩ rfl ?_
    simp (disch := omega) only [cI_lt, cI_nat, cI_inj, f2, dk_up_eq, if_pos, if_neg, if_true, if_false]
    exact dk_ex_some
theorem tw_tmo_3 {p : Nat} {t : Int32} (hp : p < 16) (h0 : N 0 p = 1) (ht : t < cI 0 ∨ cI 1000 < t) (hq : q < 600) (hC : PC N V E W T m) (hM : PM N V E W T m) : dk_Two L m l k q 23 [(0, vR (0, 0, 0)), (1, vI (cI p)), (2, vI t), (3, vR (14, 0, 0))] 79 [(0, vR (12, 0, 0)), (1, vI (cI p)), (2, vI t)] (fun m2 => PC N V E W T m2 ∧ PM N V E W T m2) := by
  have e3 : m (2, p, 0) 3 = cI 1 := by rw [(hC.1 p hp).2.1, h0]
  have f2 : m (16, 2, 0) p = cI 1 := by rw [(hM.1 p hp).1, h0]
  refine ⟨m, dk_up (dk_up m (12, 0, 0) 0 (cI 0)) (12, 0, 0) 0 (cI 3), l, q + 1, 3, cI 0, ?_, ?_, dk_up_eq, by omega, fun h => by omega, by omega, PC_thr (PC_thr hC), PM_thr (PM_thr hM)⟩
  · refine sg_23_0 ⟨rfl, rfl, rfl, rfl, rfl, rfl, rfl, rfl, trivial⟩ rfl ?_
    rcases ht with h | h
    · simp (disch := omega) only [cI_lt, cI_nat, cI_inj, e3, if_pos, if_neg, if_pos h, if_true, if_false]
      exact dk_ex_some
    · have h' := n1p h
      simp (disch := omega) only [cI_lt, cI_nat, cI_inj, e3, if_pos, if_neg, if_pos h, if_neg h', if_true, if_false]
      exact dk_ex_some
  · refine sg_79_0 ⟨rfl, rfl, rfl, rfl, rfl, rfl, trivial⟩ rfl ?_
    rcases ht with h | h
    · simp (disch := omega) only [cI_lt, cI_nat, cI_inj, f2, dk_up_eq, if_pos, if_neg, if_pos h, if_true, if_false]
      exact dk_ex_some
    · have h' := n1p h
      simp (disch := omega) only [cI_lt, cI_nat, cI_inj, f2, dk_up_eq, if_pos, if_neg, if_pos h, if_neg h', if_true, if_false]
      exact dk_ex_some
theorem tw_tmo_4 {p z : Nat} (hp : p < 16) (hz : z ≤ 1000) (h0 : N 0 p = 1) (h3 : N 3 p < 9) (hq : q < 600) (hC : PC N V E W T m) (hM : PM N V E W T m) : dk_Two L m l k q 23 [(0, vR (0, 0, 0)), (1, vI (cI p)), (2, vI (cI z)), (3, vR (14, 0, 0))] 79 [(0, vR (12, 0, 0)), (1, vI (cI p)), (2, vI (cI z))] (fun m2 => PC N V E W T m2 ∧ PM N V E W T m2) := by
  have e3 : m (2, p, 0) 3 = cI 1 := by rw [(hC.1 p hp).2.1, h0]
  have f2 : m (16, 2, 0) p = cI 1 := by rw [(hM.1 p hp).1, h0]
  have e7 : m (2, p, 0) 7 = cI (N 3 p) := (hC.1 p hp).2.2.2.2.1
  have f6 : m (13, 6, 0) p = cI (N 3 p) := (hM.1 p hp).2.2.2.1
  refine ⟨m, dk_up (dk_up m (12, 0, 0) 0 (cI 0)) (12, 0, 0) 0 (cI 4), l, q + 1, 4, cI 0, ?_, ?_, dk_up_eq, by omega, fun h => by omega, by omega, PC_thr (PC_thr hC), PM_thr (PM_thr hM)⟩
  · refine sg_23_0 ⟨rfl, rfl, rfl, rfl, rfl, rfl, rfl, rfl, trivial⟩ rfl ?_
    simp (disch := omega) only [cI_lt, cI_nat, cI_inj, e3, e7, if_pos, if_neg, if_true, if_false]
    exact dk_ex_some
  · refine sg_79_0 ⟨rfl, rfl, rfl, rfl, rfl, rfl, trivial⟩ rfl ?_
    simp (disch := omega) only [cI_lt, cI_nat, cI_inj, f2, f6, dk_up_eq, dk_up_k, if_pos, if_neg, if_true, if_false]
    exact dk_ex_some
end
