/-! an offer begins, in the reference -/
theorem dk_up_k {m : dkM} {k i j k' i' j' f g : Nat} {x : Int32} (h : k' ≠ k) : dk_up m (k, i, j) f x (k', i', j') g = m (k', i', j') g := if_neg (fun c => h (Prod.mk.inj c.1).1)
theorem dk_up_i {m : dkM} {k i j k' i' j' f g : Nat} {x : Int32} (h : i' ≠ i) : dk_up m (k, i, j) f x (k', i', j') g = m (k', i', j') g := if_neg (fun c => h (Prod.mk.inj (Prod.mk.inj c.1).2).1)
theorem dk_up_j {m : dkM} {k i j k' i' j' f g : Nat} {x : Int32} (h : j' ≠ j) : dk_up m (k, i, j) f x (k', i', j') g = m (k', i', j') g := if_neg (fun c => h (Prod.mk.inj (Prod.mk.inj c.1).2).2)
theorem dk_up_f {m : dkM} {a b : dkI} {f g : Nat} {x : Int32} (h : g ≠ f) : dk_up m a f x b g = m b g := if_neg (fun c => h c.2)
theorem PM_off {N : dkNN} {V : dkVV} {E : dkEE} {W : dkWW} {T : Nat} {m : dkM} {p : Nat} {z : Int32} (hp : p < 16) (h6 : N 6 p = 0) (hM : PM N V E W T m) : PM (nU (nU (nU (nU (nU N 5 p (N 5 p + 1)) 4 p 1) 6 p 0) 7 p 0) 3 p 7) V E W T (dk_up (dk_up (dk_up (dk_up (dk_up (dk_up (dk_up (dk_up m (12, 0, 0) 0 (cI 0)) (13, 4, 0) p (cI (N 5 p + 1))) (13, 3, 0) p (cI 1)) (13, 16, 0) p (cI T)) (13, 17, 0) p z) (13, 18, 0) p (cI 0)) (16, 19, 0) p (cI 1)) (13, 6, 0) p (cI 7)) := by
  obtain ⟨h1, h2, h3, h4, h5⟩ := hM
  refine ⟨fun r hr => ?_, fun i hi => ?_, fun c hc => ?_, ?_, ?_⟩
  · have := h1 r hr
    by_cases e : r = p
    · subst e
      simp [PMp, dk_up, nU, h6] at this ⊢
      simp [this]
    · simpa [PMp, dk_up, nU, e] using this
  · simpa [PMg, dk_up, nU] using h2 i hi
  · simpa [PMl, dk_up] using h3 c hc
  · simpa [PMw, dk_up] using h4
  · simpa [dk_up] using h5
theorem PM_off' {N : dkNN} {V : dkVV} {E : dkEE} {W : dkWW} {T : Nat} {m : dkM} {p j : Nat} (hp : p < 16) (h6 : N 6 p = 0) (hM : PM N V E W T m) : PM (nU (nU (nU (nU (nU (nU N 5 p (N 5 p + 1)) 4 p 1) 6 p 0) 7 p 0) 8 p j) 3 p 0) V E W T (dk_up (dk_up (dk_up (dk_up (dk_up (dk_up (dk_up (dk_up m (12, 0, 0) 0 (cI 0)) (13, 4, 0) p (cI (N 5 p + 1))) (13, 3, 0) p (cI 1)) (13, 16, 0) p (cI T)) (13, 17, 0) p (cI j)) (13, 18, 0) p (cI 0)) (16, 19, 0) p (cI 1)) (13, 6, 0) p (cI 0)) := by
  obtain ⟨h1, h2, h3, h4, h5⟩ := hM
  refine ⟨fun r hr => ?_, fun i hi => ?_, fun c hc => ?_, ?_, ?_⟩
  · have := h1 r hr
    by_cases e : r = p
    · subst e
      simp [PMp, dk_up, nU, h6] at this ⊢
      simp [this]
    · simpa [PMp, dk_up, nU, e] using this
  · simpa [PMg, dk_up, nU] using h2 i hi
  · simpa [PMl, dk_up] using h3 c hc
  · simpa [PMw, dk_up] using h4
  · simpa [dk_up] using h5
theorem md_offer {L : Nat} {N : dkNN} {V : dkVV} {E : dkEE} {W : dkWW} {T : Nat} {m : dkM} {l : Int64} {k q : Nat} {p : Nat} (hp : p < 16) (hM : PM N V E W T m) (hB : BD N E W T) (h0 : N 0 p = 1) (h3 : N 3 p = 9) (h6 : N 6 p = 0) : ∃ m', dk_Ev L (81, 0, [(0, vR (12, 0, 0)), (1, vI (cI p))], [], (m, l, .inl (), k, q)) ((m', l, .inl (), k, q), .inl (some (vI (cI (N 5 p + 1))))) ∧ PM (dq_off N p) V E W T m' ∧ FrM m m' ∧ m' (12, 0, 0) 0 = cI 0 := by
  have hP := hM.1 p hp
  have e2 : m (16, 2, 0) p = cI 1 := by rw [hP.1, h0]
  have e6 : m (13, 6, 0) p = cI 9 := by rw [hP.2.2.2.1, h3]
  have e4 : m (13, 4, 0) p = cI (N 5 p) := hP.2.2.2.2.2.1
  have eT : m (12, 0, 0) 1 = cI T := hM.2.2.2.2
  have hG0 := GrM_of hp hM hB
  have hG : GrM N (dk_up (dk_up (dk_up (dk_up m (12, 0, 0) 0 (cI 0)) (13, 4, 0) p (cI (N 5 p + 1))) (13, 3, 0) p (cI 1)) (13, 16, 0) p (cI T)) p := by
    simpa [GrM, dk_up] using hG0
  have hg := md_nx (L := L) (l := l) (k := k) (q := q) hp hG (Nat.zero_le _)
  rw [Nat.sub_zero] at hg
  have hm : N 1 p ≤ 4 := hG0.2.1
  rcases dk_nx_spec (N := N) (p := p) (N 1 p) 0 with e | ⟨j, e, g1, g2, g3⟩
  · rw [e] at hg
    refine ⟨dk_up (dk_up (dk_up (dk_up (dk_up (dk_up (dk_up (dk_up m (12, 0, 0) 0 (cI 0)) (13, 4, 0) p (cI (N 5 p + 1))) (13, 3, 0) p (cI 1)) (13, 16, 0) p (cI T)) (13, 17, 0) p (cJ 0)) (13, 18, 0) p (cI 0)) (16, 19, 0) p (cI 1)) (13, 6, 0) p (cI 7), sg_81_0 ⟨rfl, rfl, rfl, rfl, trivial⟩ rfl ?_, ?_, ?_, ?_⟩
    · simp (disch := omega) only [cI_lt, cI_nat, cI_inj, cI_add, e2, e6, e4, eT, dk_up_eq, dk_up_k, dk_up_i, dk_up_f, if_pos, if_neg]
      refine dk_ex_run (kv_81_59 hg (sg_81_62 ⟨rfl, rfl, rfl, rfl, trivial⟩ rfl ?_))
      have hlt : cJ 0 < cI 0 := by decide
      simp (disch := omega) only [cI_lt, cI_nat, dk_up_eq, dk_up_k, dk_up_i, dk_up_f, if_pos, if_neg, hlt, if_true]
      exact dk_ex_some
    · rw [dq_off, if_pos e]; exact PM_off hp h6 hM
    · intro a f ha
      obtain ⟨a1, a2, a3⟩ := a
      have n1 : a1 ≠ 12 := by simp only at ha; omega
      have n2 : a1 ≠ 13 := by simp only at ha; omega
      have n3 : a1 ≠ 16 := by simp only at ha; omega
      simp [dk_up, n1, n2, n3]
    · simp [dk_up]
  · rw [e] at hg
    refine ⟨dk_up (dk_up (dk_up (dk_up (dk_up (dk_up (dk_up (dk_up m (12, 0, 0) 0 (cI 0)) (13, 4, 0) p (cI (N 5 p + 1))) (13, 3, 0) p (cI 1)) (13, 16, 0) p (cI T)) (13, 17, 0) p (cI j)) (13, 18, 0) p (cI 0)) (16, 19, 0) p (cI 1)) (13, 6, 0) p (cI 0), sg_81_0 ⟨rfl, rfl, rfl, rfl, trivial⟩ rfl ?_, ?_, ?_, ?_⟩
    · simp (disch := omega) only [cI_lt, cI_nat, cI_inj, cI_add, e2, e6, e4, eT, dk_up_eq, dk_up_k, dk_up_i, dk_up_f, if_pos, if_neg]
      refine dk_ex_run (kv_81_59 hg (sg_81_62 ⟨rfl, rfl, rfl, rfl, trivial⟩ rfl ?_))
      simp (disch := omega) only [cJ_succ, cI_lt, cI_nat, dk_up_eq, dk_up_k, dk_up_i, dk_up_f, if_pos, if_neg]
      exact dk_ex_some
    · rw [dq_off, if_neg (by omega), e, Nat.add_sub_cancel]; exact PM_off' hp h6 hM
    · intro a f ha
      obtain ⟨a1, a2, a3⟩ := a
      have n1 : a1 ≠ 12 := by simp only at ha; omega
      have n2 : a1 ≠ 13 := by simp only at ha; omega
      have n3 : a1 ≠ 16 := by simp only at ha; omega
      simp [dk_up, n1, n2, n3]
    · simp [dk_up]
