/-! an offer begins -/
def dq_off (N : dkNN) (p : Nat) : dkNN :=
  if dk_nx N p (N 1 p) 0 = 0 then nU (nU (nU (nU (nU N 5 p (N 5 p + 1)) 4 p 1) 6 p 0) 7 p 0) 3 p 7
  else nU (nU (nU (nU (nU (nU N 5 p (N 5 p + 1)) 4 p 1) 6 p 0) 7 p 0) 8 p (dk_nx N p (N 1 p) 0 - 1)) 3 p 0
theorem PC_off {N : dkNN} {V : dkVV} {E : dkEE} {W : dkWW} {T : Nat} {m : dkM} {p : Nat} (hp : p < 16) (hC : PC N V E W T m) : PC (nU (nU (nU (nU (nU N 5 p (N 5 p + 1)) 4 p 1) 6 p 0) 7 p 0) 3 p 7) V E W T (dk_up (dk_up (dk_up (dk_up (dk_up m (3, p, 0) 1 (cI (N 5 p + 1))) (3, p, 0) 0 (cI 1)) (3, p, 0) 2 (cJ 0)) (2, p, 0) 6 (cI 0)) (2, p, 0) 7 (cI 7)) := by
  obtain ⟨h1, h2, h3, h4, h5, h6⟩ := hC
  refine ⟨fun r hr => ?_, fun r hr g hg => ?_, fun c hc => ?_, ?_, ?_, ?_⟩
  · have := h1 r hr
    by_cases e : r = p
    · subst e
      simp [PCp, dk_up, nU] at this ⊢
      simp [this]
    · simpa [PCp, dk_up, nU, e] using this
  · simpa [PCg, dk_up, nU] using h2 r hr g hg
  · simpa [PCl, dk_up] using h3 c hc
  · simpa [PCw, dk_up] using h4
  · simpa [dk_up] using h5
  · simpa [PCv, dk_lv, dk_up, nU] using h6
theorem PC_off' {N : dkNN} {V : dkVV} {E : dkEE} {W : dkWW} {T : Nat} {m : dkM} {p j : Nat} (hp : p < 16) (hC : PC N V E W T m) : PC (nU (nU (nU (nU (nU (nU N 5 p (N 5 p + 1)) 4 p 1) 6 p 0) 7 p 0) 8 p j) 3 p 0) V E W T (dk_up (dk_up (dk_up (dk_up (dk_up (dk_up m (3, p, 0) 1 (cI (N 5 p + 1))) (3, p, 0) 0 (cI 1)) (3, p, 0) 2 (cJ 0)) (2, p, 0) 6 (cI 0)) (2, p, 0) 8 (cI j)) (2, p, 0) 7 (cI 0)) := by
  obtain ⟨h1, h2, h3, h4, h5, h6⟩ := hC
  refine ⟨fun r hr => ?_, fun r hr g hg => ?_, fun c hc => ?_, ?_, ?_, ?_⟩
  · have := h1 r hr
    by_cases e : r = p
    · subst e
      simp [PCp, dk_up, nU] at this ⊢
      simp [this]
    · simpa [PCp, dk_up, nU, e] using this
  · simpa [PCg, dk_up, nU] using h2 r hr g hg
  · simpa [PCl, dk_up] using h3 c hc
  · simpa [PCw, dk_up] using h4
  · simpa [dk_up] using h5
  · simpa [PCv, dk_lv, dk_up, nU] using h6
theorem GrC_of {N : dkNN} {V : dkVV} {E : dkEE} {W : dkWW} {T : Nat} {m : dkM} {p : Nat} (hp : p < 16) (hC : PC N V E W T m) (hB : BD N E W T) : GrC N m p :=
  ⟨(hC.1 p hp).2.2.1, (hB.1 p hp).2.1, fun g hg => ⟨(hC.2.1 p hp g hg).2.2.2, (hB.2.1 (4 * p + g) (by omega)).2.2⟩⟩
theorem GrM_of {N : dkNN} {V : dkVV} {E : dkEE} {W : dkWW} {T : Nat} {m : dkM} {p : Nat} (hp : p < 16) (hM : PM N V E W T m) (hB : BD N E W T) : GrM N m p :=
  ⟨(hM.1 p hp).2.1, (hB.1 p hp).2.1, fun g hg => ⟨(hM.2.1 (4 * p + g) (by omega)).2.2.2, (hB.2.1 (4 * p + g) (by omega)).2.2⟩⟩
theorem cl_begin {L : Nat} {N : dkNN} {V : dkVV} {E : dkEE} {W : dkWW} {T : Nat} {m : dkM} {l : Int64} {k q : Nat} {p : Nat} (hp : p < 16) (hC : PC N V E W T m) (hB : BD N E W T) : ∃ m', dk_Ev L (26, 0, [(0, vR (2, p, 0))], [], (m, l, .inl (), k, q)) ((m', l, .inl (), k, q), .inl none) ∧ PC (dq_off N p) V E W T m' ∧ FrC m m' := by
  have hv : m (3, p, 0) 1 = cI (N 5 p) := (hC.1 p hp).2.2.2.2.2.2.1
  have hG0 := GrC_of hp hC hB
  have hG : GrC N (dk_up (dk_up (dk_up (dk_up m (3, p, 0) 1 (cI (N 5 p + 1))) (3, p, 0) 0 (cI 1)) (3, p, 0) 2 (cJ 0)) (2, p, 0) 6 (cI 0)) p := by
    simpa [GrC, dk_up] using hG0
  have hg := cl_gof (L := L) (l := l) (k := k) (q := q) hG (Nat.zero_le _)
  rw [Nat.sub_zero] at hg
  rcases dk_nx_spec (N := N) (p := p) (N 1 p) 0 with e | ⟨j, e, h1, h2, h3⟩
  · rw [e] at hg
    refine ⟨dk_up (dk_up (dk_up (dk_up (dk_up m (3, p, 0) 1 (cI (N 5 p + 1))) (3, p, 0) 0 (cI 1)) (3, p, 0) 2 (cJ 0)) (2, p, 0) 6 (cI 0)) (2, p, 0) 7 (cI 7), sg_26_0 ⟨rfl, rfl, trivial⟩ rfl ?_, ?_⟩
    · simp only [hv, cI_add]
      refine dk_ex_run (kv_26_27 hg (sg_26_30 ⟨rfl, rfl, trivial⟩ rfl ?_))
      simp only [if_true]
      exact dk_ex_some
    · refine ⟨?_, fun a f ha => ?_⟩
      · rw [dq_off, if_pos e]; exact PC_off hp hC
      · obtain ⟨a1, a2, a3⟩ := a
        have h2 : a1 ≠ 2 := by simp only at ha; omega
        have h3 : a1 ≠ 3 := by simp only at ha; omega
        simp [dk_up, h2, h3]
  · rw [e] at hg
    have hm : N 1 p ≤ 4 := hG0.2.1
    refine ⟨dk_up (dk_up (dk_up (dk_up (dk_up (dk_up m (3, p, 0) 1 (cI (N 5 p + 1))) (3, p, 0) 0 (cI 1)) (3, p, 0) 2 (cJ 0)) (2, p, 0) 6 (cI 0)) (2, p, 0) 8 (cI j)) (2, p, 0) 7 (cI 0), sg_26_0 ⟨rfl, rfl, trivial⟩ rfl ?_, ?_⟩
    · simp only [hv, cI_add]
      refine dk_ex_run (kv_26_27 hg (sg_26_30 ⟨rfl, rfl, trivial⟩ rfl ?_))
      have hne : ¬ cJ (j + 1) = cJ 0 := fun c => by rw [cJ_inj (by omega) (by omega)] at c; omega
      simp only [if_neg hne]
      exact dk_ex_some
    · refine ⟨?_, fun a f ha => ?_⟩
      · rw [dq_off, if_neg (by omega), e, Nat.add_sub_cancel]; exact PC_off' hp hC
      · obtain ⟨a1, a2, a3⟩ := a
        have h2 : a1 ≠ 2 := by simp only at ha; omega
        have h3 : a1 ≠ 3 := by simp only at ha; omega
        simp [dk_up, h2, h3]
