theorem le_F {a n : Nat} (h : a < n) : (n ≤ a) = False := eq_false (by omega)
/-! pictures of the reference: own cells, a mark, what was found, an entry added, a pair told, the end of a pair -/
section
variable {N : dkNN} {V : dkVV} {E : dkEE} {W : dkWW} {T : Nat} {m m' : dkM} {p : Nat}
theorem PM_pr {x3 x8 x9 x10 : Nat} (hM : PM N V E W T m) (h9 : N 3 p ≠ 9) (h2 : 2 ≤ x3 ∧ x3 ≤ 6 → 2 ≤ N 3 p ∧ N 3 p ≤ 6) (h6 : x3 ≠ 6) (e : ∀ a f, ¬ (f = p ∧ (a = (13, 6, 0) ∨ a = (13, 17, 0) ∨ a = (13, 18, 0) ∨ a = (16, 19, 0))) → m' a f = m a f) (e7 : m' (13, 6, 0) p = cI x3) (e8 : x3 ≤ 6 → m' (13, 17, 0) p = cI x8) (e9 : 1 ≤ x3 ∧ x3 ≤ 4 → m' (13, 18, 0) p = cI x9 ∧ m' (16, 19, 0) p = cI x10) : PM (nQ N p x3 x8 x9 x10) V E W T m' := by
  obtain ⟨a1, a2, a3, a4, a5⟩ := hM
  have k2 : ∀ i f, i ≠ 6 → i ≠ 17 → i ≠ 18 → m' (13, i, 0) f = m (13, i, 0) f := fun r f h1 h2 h3 => e _ _ (fun h => by simp [h1, h2, h3] at h)
  have k6 : ∀ i f, i ≠ 19 → m' (16, i, 0) f = m (16, i, 0) f := fun r f h1 => e _ _ (fun h => by simp [h1] at h)
  have kr : ∀ a f, f ≠ p → m' a f = m a f := fun r f h => e _ _ (fun h' => h h'.1)
  have kk : ∀ f, m' (12, 0, 0) f = m (12, 0, 0) f := fun f => e _ _ (fun h => by simp at h)
  refine ⟨fun r hr => ?_, fun i hi => ?_, fun c hc => ?_, ?_, ?_⟩
  · have := a1 r hr
    by_cases e : r = p
    · subst e
      simp (disch := decide) [PMp, nQ, nU, k2, k6, e7] at this ⊢
      obtain ⟨b1, b2, b3, b4, b5, b6, b7, b8, b9, b10, b11, b12, b13⟩ := this
      refine ⟨b1, b2, b3, b5, b6, b7, fun _ => b8 h9, e8, fun h h' => e9 ⟨h, h'⟩, fun h h' => b11 (h2 ⟨h, h'⟩).1 (h2 ⟨h, h'⟩).2, b12, fun h => h.elim (fun h => b13 (Or.inl h)) (fun h => absurd h h6)⟩
    · simpa (disch := first | decide | assumption) [PMp, nQ, nU, e, kr] using this
  · simpa (disch := decide) [PMg, nQ, nU, k2, k6] using a2 i hi
  · simpa (disch := decide) [PMl, k2] using a3 c hc
  · simpa (disch := decide) [PMw, k2, kk] using a4
  · simpa [kk] using a5
theorem PM_mk {f x4 x6 : Nat} (hM : PM N V E W T m) (h : x4 = 3 → m (13, 7, 0) f = cI (N 14 f) ∧ m (13, 8, 0) f = cI (N 15 f) ∧ m (13, 9, 0) f = V 1 f) : PM (nU (nU N 4 f x4) 6 f x6) V E W T (dk_up (dk_up m (13, 3, 0) f (cI x4)) (13, 5, 0) f (cJ x6)) := by
  obtain ⟨a1, a2, a3, a4, a5⟩ := hM
  refine ⟨fun r hr => ?_, fun i hi => ?_, fun c hc => ?_, ?_, ?_⟩
  · have := a1 r hr
    by_cases e : r = f
    · subst e
      simp [PMp, dk_up, nU] at this ⊢
      grind
    · simpa [PMp, dk_up, nU, e] using this
  · simpa [PMg, dk_up, nU] using a2 i hi
  · simpa [PMl, dk_up] using a3 c hc
  · simpa [PMw, dk_up] using a4
  · simpa [dk_up] using a5
theorem PM_found {a b g : Nat} (hM : PM N V E W T m) (h1 : N 3 p = 1) : PM (nU (nU (nU (nU N 11 p a) 12 p b) 13 p g) 3 p 2) V E W T (dk_up (dk_up (dk_up (dk_up m (13, 20, 0) p (cI a)) (13, 22, 0) p (cI g)) (13, 21, 0) p (cI b)) (13, 6, 0) p (cI 2)) := by
  obtain ⟨a1, a2, a3, a4, a5⟩ := hM
  refine ⟨fun r hr => ?_, fun i hi => ?_, fun c hc => ?_, ?_, ?_⟩
  · have := a1 r hr
    by_cases e : r = p
    · subst e
      simp [PMp, dk_up, nU, h1] at this ⊢
      obtain ⟨b1, b2, b3, b4, b5, b6, b7, b8, b9, b10, b11, b12⟩ := this
      exact ⟨b1, b2, b3, b5, b6, b7, b8, b9, b10, b11, b12⟩
    · simpa [PMp, dk_up, nU, e] using this
  · simpa [PMg, dk_up, nU] using a2 i hi
  · simpa [PMl, dk_up] using a3 c hc
  · simpa [PMw, dk_up] using a4
  · simpa [dk_up] using a5
theorem PM_app {c a b : Nat} (hM : PM N V E W T m) (hB : BD N E W T) (hl : (E c).length ≤ 63) : PM N V (eU E c (E c ++ [(a, b)])) W T (dk_up (dk_up (dk_up m (13, 24, 0) (64 * c + (E c).length) (cI a)) (13, 25, 0) (64 * c + (E c).length) (cI b)) (13, 23, 0) c (cI ((E c).length + 1))) := by
  obtain ⟨a1, a2, a3, a4, a5⟩ := hM
  refine ⟨fun r hr => ?_, fun i hi => ?_, fun d hd => ?_, ?_, ?_⟩
  · simpa [PMp, dk_up] using a1 r hr
  · simpa [PMg, dk_up] using a2 i hi
  · by_cases e : d = c
    · subst e
      have he : eU E d (E d ++ [(a, b)]) d = E d ++ [(a, b)] := if_pos rfl
      rw [PMl, he]
      refine ⟨by simp [dk_up], fun k w hk => ?_⟩
      rcases Nat.lt_trichotomy k (E d).length with h | h | h
      · rw [List.getElem?_append_left h] at hk
        have := (a3 d hd).2 k w hk
        have hne : ¬ k = (E d).length := by omega
        simpa [dk_up, hne] using this
      · subst h
        simp at hk
        subst hk
        simp [dk_up]
      · rw [List.getElem?_eq_none (by simp; omega)] at hk
        cases hk
    · have he : eU E c (E c ++ [(a, b)]) d = E d := if_neg e
      rw [PMl, he]
      refine ⟨by simpa [dk_up, e] using (a3 d hd).1, fun k w hk => ?_⟩
      have := (a3 d hd).2 k w hk
      have hlt := (List.getElem?_eq_some_iff.1 hk).1
      have hle := (hB.2.2.1 d hd).1
      have hne : ¬ 64 * d + k = 64 * c + (E c).length := by omega
      simpa [dk_up, hne] using this
  · simpa [PMw, dk_up] using a4
  · simpa [dk_up] using a5
theorem PM_close (hM : PM N V E W T m) (h3 : N 3 p = 6) (h14 : N 14 p = N 11 p) (h15 : N 15 p = N 8 p) : PM (nU (nU (nU N 4 p 3) 6 p 0) 3 p 8) V E W T (dk_up (dk_up (dk_up (dk_up (dk_up m (13, 3, 0) p (cI 3)) (13, 5, 0) p (cJ 0)) (13, 7, 0) p (cI (N 11 p))) (13, 8, 0) p (cI (N 8 p))) (13, 6, 0) p (cI 8)) := by
  obtain ⟨a1, a2, a3, a4, a5⟩ := hM
  refine ⟨fun r hr => ?_, fun i hi => ?_, fun c hc => ?_, ?_, ?_⟩
  · have := a1 r hr
    by_cases e : r = p
    · subst e
      simp [PMp, dk_up, nU, h3, h14, h15] at this ⊢
      grind
    · simpa [PMp, dk_up, nU, e] using this
  · simpa [PMg, dk_up, nU] using a2 i hi
  · simpa [PMl, dk_up] using a3 c hc
  · simpa [PMw, dk_up] using a4
  · simpa [dk_up] using a5
theorem PM_tell {a b c d : Nat} {x xw xp : Int32} (hM : PM N V E W T m) (h3 : N 3 p = 5) (h4 : N 4 p ≠ 3) (hw : N 11 p ≠ p) : PM (nT N p) (vU (vU V 1 (N 11 p) xw) 1 p xp) E (W ++ [(a, b, c, d, x)]) T (dk_up (dk_up (dk_up (dk_up (dk_up (dk_up (dk_up (dk_up (dk_up (dk_up (dk_up (dk_up (dk_up m (13, 3, 0) (N 11 p) (cI 3)) (13, 5, 0) (N 11 p) (cJ 0)) (13, 7, 0) (N 11 p) (cI p)) (13, 8, 0) (N 11 p) (cI (N 13 p))) (13, 27, 0) (5 * W.length) (cI a)) (13, 27, 0) (5 * W.length + 1) (cI b)) (13, 27, 0) (5 * W.length + 2) (cI c)) (13, 27, 0) (5 * W.length + 3) (cI d)) (13, 27, 0) (5 * W.length + 4) x) (13, 9, 0) p xp) (13, 9, 0) (N 11 p) xw) (12, 0, 0) 26 (cI (W.length + 1))) (13, 6, 0) p (cI 6)) := by
  obtain ⟨a1, a2, a3, a4, a5⟩ := hM
  refine ⟨fun r hr => ?_, fun i hi => ?_, fun c hc => ?_, ?_, ?_⟩
  · have := a1 r hr
    by_cases e : r = p
    · subst e
      have hw' := Ne.symm hw
      simp [PMp, dk_up, nU, nT, vU, h3, h4, hw, hw'] at this ⊢
      grind
    · by_cases e2 : r = N 11 p
      · subst e2
        simp [PMp, dk_up, nU, nT, vU, hw] at this ⊢
        grind
      · simpa [PMp, dk_up, nU, nT, vU, e, e2] using this
  · simpa [PMg, dk_up, nU, nT, vU] using a2 i hi
  · simpa [PMl, dk_up] using a3 c hc
  · refine ⟨by simp [dk_up], fun k w hk => ?_⟩
    rcases Nat.lt_trichotomy k W.length with h | h | h
    · rw [List.getElem?_append_left h] at hk
      have := a4.2 k w hk
      have n : ∀ j j', j < 5 → j' < 5 → ¬ 5 * k + j = 5 * W.length + j' := fun j j' _ _ => by omega
      have q0 : ∀ j, j < 5 → ¬ 5 * k + j = 5 * W.length := fun j _ => by omega
      have q1 : ∀ j', j' < 5 → ¬ 5 * k = 5 * W.length + j' := fun j _ => by omega
      have q2 : ¬ 5 * k = 5 * W.length := by omega
      simpa (disch := decide) [dk_up, n, q0, q1, q2] using this
    · subst h
      simp at hk
      subst hk
      simp [dk_up]
    · rw [List.getElem?_eq_none (by simp; omega)] at hk
      cases hk
  · simpa [dk_up] using a5
end
