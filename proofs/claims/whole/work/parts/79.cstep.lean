/-! a step of the class: what is answered, and the places where a state is claimed, given back, told, paired -/
def dk_an (N : dkNN) (p : Nat) : Nat := if N 3 p = 7 then 1 else if N 3 p = 8 then (if N 4 p = 3 then 2 else 3) else if N 3 p = 9 then 4 else 0
section
variable {L : Nat} {N : dkNN} {V : dkVV} {E : dkEE} {W : dkWW} {T : Nat} {m : dkM} {l : Int64} {k q : Nat} {p : Nat}
theorem cl_49_21 (hp : p < 16) (hC : PC N V E W T m) (h3 : N 3 p ≤ 9) (h4 : N 4 p ≤ 3) : dk_Ev L (49, 21, [(0, vR (0, 0, 0)), (1, vR (2, p, 0))], [], (m, l, .inl (), k, q)) ((m, l, .inl (), k, q), .inl (some (vI (cI (dk_an N p))))) := by
  have c7 : m (2, p, 0) 7 = cI (N 3 p) := (hC.1 p hp).2.2.2.2.1
  have s0 : m (3, p, 0) 0 = cI (N 4 p) := (hC.1 p hp).2.2.2.2.2.1
  refine sg_49_21 ⟨rfl, rfl, trivial⟩ rfl ?_
  simp (disch := omega) only [c7, s0, cI_inj]
  by_cases a1 : N 3 p = 7
  · simp only [dk_an, a1, if_true]; exact dk_ex_some
  · by_cases a2 : N 3 p = 8
    · by_cases a3 : N 4 p = 3
      · simp only [dk_an, a2, a3, if_true, if_false, Nat.reduceEqDiff]; exact dk_ex_some
      · simp only [dk_an, a2, a3, if_true, if_false, Nat.reduceEqDiff]; exact dk_ex_some
    · by_cases a3 : N 3 p = 9
      · simp only [dk_an, a3, if_true, if_false, Nat.reduceEqDiff]; exact dk_ex_some
      · simp only [dk_an, a1, a2, a3, if_false]; exact dk_ex_some
theorem cl_49_do {m' : dkM} {N' : dkNN} {V' : dkVV} {E' : dkEE} {W' : dkWW} (hp : p < 16) (hC : PC N V E W T m) (hb : N 4 p ≤ 3) (h3 : N 3 p ≤ 9) (h8 : N 3 p ≠ 8) (ho : N 3 p ≤ 2 ∨ N 3 p = 7 → N 4 p = 1 ∨ N 4 p = 2) (e : dk_Ev L (47, 0, [(0, vR (0, 0, 0)), (1, vR (2, p, 0))], [], (m, l, .inl (), k, q)) ((m', l, .inl (), k, q), .inl none)) (hC' : PC N' V' E' W' T m') (h3' : N' 3 p ≤ 9) (h4' : N' 4 p ≤ 3) : dk_Ev L (49, 0, [(0, vR (0, 0, 0)), (1, vR (2, p, 0))], [], (m, l, .inl (), k, q)) ((m', l, .inl (), k, q), .inl (some (vI (cI (dk_an N' p))))) := by
  have c7 : m (2, p, 0) 7 = cI (N 3 p) := (hC.1 p hp).2.2.2.2.1
  have s0 : m (3, p, 0) 0 = cI (N 4 p) := (hC.1 p hp).2.2.2.2.2.1
  refine sg_49_0 ⟨rfl, rfl, rfl, rfl, trivial⟩ rfl ?_
  have key : ∀ r, dk_Ex (fun n => dk_run L (dk_OX L) (n + r) some (49, 18, [(0, vR (0, 0, 0)), (1, vR (2, p, 0))], [vR (2, p, 0), vR (0, 0, 0)], (m, l, .inl (), k, q))) ((m', l, .inl (), k, q), .inl (some (vI (cI (dk_an N' p))))) := fun r =>
    dk_ex_run (kv_49_18 e (cl_49_21 hp hC' h3' h4'))
  have h9 : N 3 p = 0 ∨ N 3 p = 1 ∨ N 3 p = 2 ∨ N 3 p = 3 ∨ N 3 p = 4 ∨ N 3 p = 5 ∨ N 3 p = 6 ∨ N 3 p = 7 ∨ N 3 p = 9 := by omega
  have n43 : (N 3 p ≤ 2 ∨ N 3 p = 7) → ¬ N 4 p = 3 := fun h => by have := ho h; omega
  have n40 : (N 3 p ≤ 2 ∨ N 3 p = 7) → ¬ N 4 p = 0 := fun h => by have := ho h; omega
  rcases h9 with h | h | h | h | h | h | h | h | h <;> rw [h] at c7 n43 n40 <;> simp (disch := omega) only [↓reduceIte, c7, s0, cI_inj, n43, n40, Nat.reduceEqDiff, Nat.reduceLeDiff, true_or, or_true] <;> exact key _
theorem cl_49_over (hp : p < 16) (hC : PC N V E W T m) (h3 : (N 3 p ≤ 2 ∨ N 3 p = 7) ∧ (N 4 p = 0 ∨ N 4 p = 3)) : dk_Ev L (49, 0, [(0, vR (0, 0, 0)), (1, vR (2, p, 0))], [], (m, l, .inl (), k, q)) ((dk_up m (2, p, 0) 7 (cI 8), l, .inl (), k, q), .inl (some (vI (cI (if N 4 p = 3 then 2 else 3))))) := by
  have c7 : m (2, p, 0) 7 = cI (N 3 p) := (hC.1 p hp).2.2.2.2.1
  have s0 : m (3, p, 0) 0 = cI (N 4 p) := (hC.1 p hp).2.2.2.2.2.1
  have s0' : dk_up m (2, p, 0) 7 (cI 8) (3, p, 0) 0 = cI (N 4 p) := by rw [← s0]; simp [dk_up]
  refine sg_49_0 ⟨rfl, rfl, rfl, rfl, trivial⟩ rfl ?_
  obtain ⟨h3, h4⟩ := h3
  have h9 : N 3 p = 0 ∨ N 3 p = 1 ∨ N 3 p = 2 ∨ N 3 p = 7 := by omega
  rcases h9 with h | h | h | h <;> rcases h4 with h4 | h4 <;> rw [h] at c7 <;> rw [h4] at s0 s0' ⊢ <;> simp (disch := omega) only [↓reduceIte, c7, s0, s0', cI_inj, dk_up_eq, Nat.reduceEqDiff] <;> exact dk_ex_some
theorem cl_49_end (hp : p < 16) (hC : PC N V E W T m) (h3 : N 3 p = 8) (h4 : N 4 p ≤ 3) : dk_Ev L (49, 0, [(0, vR (0, 0, 0)), (1, vR (2, p, 0))], [], (m, l, .inl (), k, q)) ((dk_up m (2, p, 0) 7 (cI 8), l, .inl (), k, q), .inl (some (vI (cI (dk_an N p))))) := by
  have c7 : m (2, p, 0) 7 = cI (N 3 p) := (hC.1 p hp).2.2.2.2.1
  have s0 : m (3, p, 0) 0 = cI (N 4 p) := (hC.1 p hp).2.2.2.2.2.1
  have s0' : dk_up m (2, p, 0) 7 (cI 8) (3, p, 0) 0 = cI (N 4 p) := by rw [← s0]; simp [dk_up]
  refine sg_49_0 ⟨rfl, rfl, rfl, rfl, trivial⟩ rfl ?_
  rw [h3] at c7
  by_cases a3 : N 4 p = 3 <;> simp (disch := omega) only [↓reduceIte, c7, s0, s0', cI_inj, dk_up_eq, dk_an, h3, a3, Nat.reduceEqDiff] <;> exact dk_ex_some
end
theorem FrC_refl {m : dkM} : FrC m m := fun _ _ _ => rfl
theorem FrC_up {m m' : dkM} {a : dkI} {f : Nat} {x : Int32} (ha : a.1 < 12) (h : FrC m m') : FrC m (dk_up m' a f x) := fun b g hb => by
  have : dk_up m' a f x b g = m' b g := if_neg (fun e => by rw [e.1] at hb; omega)
  rw [this]; exact h b g hb
theorem FrM_refl {m : dkM} : FrM m m := fun _ _ _ => rfl
theorem FrM_up {m m' : dkM} {a : dkI} {f : Nat} {x : Int32} (ha : 12 ≤ a.1 ∧ a.1 ≠ 15) (h : FrM m m') : FrM m (dk_up m' a f x) := fun b g hb => by
  have : dk_up m' a f x b g = m' b g := if_neg (fun e => by rw [e.1] at hb; omega)
  rw [this]; exact h b g hb
/-- .. and 'thrown' stays -/
def FrS (m m' : dkM) : Prop := FrM m m' ∧ m' (12, 0, 0) 0 = m (12, 0, 0) 0
theorem FrS_refl {m : dkM} : FrS m m := ⟨FrM_refl, rfl⟩
theorem FrS_up {m m' : dkM} {a : dkI} {f : Nat} {x : Int32} (ha : 12 ≤ a.1 ∧ a.1 ≠ 15) (hb : (a.1 == 12 && f == 0) = false) (h : FrS m m') : FrS m (dk_up m' a f x) := by
  refine ⟨FrM_up ha h.1, ?_⟩
  have : dk_up m' a f x (12, 0, 0) 0 = m' (12, 0, 0) 0 := if_neg (fun e => by
    rw [← e.1, ← e.2] at hb
    simp at hb)
  rw [this]; exact h.2
theorem nU_self {N : dkNN} {f i : Nat} : nU N f i (N f i) = N := by
  funext g j
  by_cases e : g = f ∧ j = i
  · simp [nU, e]
  · simp [nU, e]
theorem nQ_keep {N : dkNN} {p x3 x8 x9 x10 : Nat} (h8 : x8 = N 8 p) (h9 : x9 = N 9 p) (h10 : x10 = N 10 p) : nQ N p x3 x8 x9 x10 = nU N 3 p x3 := by
  rw [nQ, h8, nU_self, h9, nU_self, h10, nU_self]
/-! pictures of the class: own cells, a mark, a partner kept, a pair written, an entry added -/
section
variable {N : dkNN} {V : dkVV} {E : dkEE} {W : dkWW} {T : Nat} {m m' : dkM} {p : Nat}
theorem PC_pr {x3 x8 x9 x10 : Nat} (hC : PC N V E W T m) (h9 : N 3 p ≠ 9) (h2 : 2 ≤ x3 ∧ x3 ≤ 6 → 2 ≤ N 3 p ∧ N 3 p ≤ 6) (h6 : x3 = 6 → m (3, p, 0) 3 = cI (N 14 p) ∧ m (3, p, 0) 4 = cI (N 15 p) ∧ m (3, p, 0) 5 = V 1 p) (e : ∀ a f, ¬ (a = (2, p, 0) ∧ (f = 7 ∨ f = 8 ∨ f = 9 ∨ f = 10)) → m' a f = m a f) (e7 : m' (2, p, 0) 7 = cI x3) (e8 : x3 ≤ 6 → m' (2, p, 0) 8 = cI x8) (e9 : 1 ≤ x3 ∧ x3 ≤ 4 → m' (2, p, 0) 9 = cI x9 ∧ m' (2, p, 0) 10 = cI x10) : PC (nQ N p x3 x8 x9 x10) V E W T m' := by
  obtain ⟨a1, a2, a3, a4, a5, a6⟩ := hC
  have k2 : ∀ r f, f ≠ 7 → f ≠ 8 → f ≠ 9 → f ≠ 10 → m' (2, r, 0) f = m (2, r, 0) f := fun r f _ _ _ _ => e _ _ (fun h => by omega)
  have kr : ∀ r f, r ≠ p → m' (2, r, 0) f = m (2, r, 0) f := fun r f h => e _ _ (fun h' => by simp at h'; exact h h'.1)
  have kk : ∀ k i j f, k ≠ 2 → m' (k, i, j) f = m (k, i, j) f := fun k i j f h => e _ _ (fun h' => by simp at h'; exact h h'.1.1)
  refine ⟨fun r hr => ?_, fun r hr g hg => ?_, fun c hc => ?_, ?_, ?_, ?_⟩
  · have := a1 r hr
    by_cases e : r = p
    · subst e
      simp (disch := decide) [PCp, nQ, nU, k2, kk, e7] at this ⊢
      obtain ⟨b1, b2, b3, b4, b5, b6, b7, b8, b9, b10, b11, b12, b13⟩ := this
      exact ⟨b1, b2, b3, b4, b6, b7, b8, fun _ => b9 h9, e8, fun h h' => e9 ⟨h, h'⟩, fun h h' => b12 (h2 ⟨h, h'⟩).1 (h2 ⟨h, h'⟩).2, fun h => h.elim (fun h => b13 (Or.inl h)) h6⟩
    · simpa (disch := first | decide | assumption) [PCp, nQ, nU, e, kr, kk] using this
  · simpa (disch := decide) [PCg, nQ, nU, kk] using a2 r hr g hg
  · simpa (disch := decide) [PCl, kk] using a3 c hc
  · simpa (disch := decide) [PCw, kk] using a4
  · simpa (disch := decide) [kk] using a5
  · simpa (disch := decide) [PCv, dk_lv, nQ, nU, kk] using a6
theorem PC_mk {f x4 x6 : Nat} (hC : PC N V E W T m) (h : x4 = 3 → m (3, f, 0) 3 = cI (N 14 f) ∧ m (3, f, 0) 4 = cI (N 15 f) ∧ m (3, f, 0) 5 = V 1 f) : PC (nU (nU N 4 f x4) 6 f x6) V E W T (dk_up (dk_up m (3, f, 0) 0 (cI x4)) (3, f, 0) 2 (cJ x6)) := by
  obtain ⟨a1, a2, a3, a4, a5, a6⟩ := hC
  refine ⟨fun r hr => ?_, fun r hr g hg => ?_, fun c hc => ?_, ?_, ?_, ?_⟩
  · have := a1 r hr
    by_cases e : r = f
    · subst e
      simp [PCp, dk_up, nU] at this ⊢
      grind
    · simpa [PCp, dk_up, nU, e] using this
  · simpa [PCg, dk_up, nU] using a2 r hr g hg
  · simpa [PCl, dk_up] using a3 c hc
  · simpa [PCw, dk_up] using a4
  · simpa [dk_up] using a5
  · simpa [PCv, dk_lv, dk_up, nU] using a6
theorem PC_keep {f a b : Nat} {x : Int32} (hC : PC N V E W T m) : PC (nU (nU N 14 f a) 15 f b) (vU V 1 f x) E W T (dk_up (dk_up (dk_up m (3, f, 0) 3 (cI a)) (3, f, 0) 4 (cI b)) (3, f, 0) 5 x) := by
  obtain ⟨a1, a2, a3, a4, a5, a6⟩ := hC
  refine ⟨fun r hr => ?_, fun r hr g hg => ?_, fun c hc => ?_, ?_, ?_, ?_⟩
  · have := a1 r hr
    by_cases e : r = f
    · subst e
      simp [PCp, dk_up, nU, vU] at this ⊢
      obtain ⟨b1, b2, b3, b4, b5, b6, b7, b8, b9, b10, b11, b12, b13⟩ := this
      exact ⟨b1, b2, b3, b4, b5, b6, b7, b8, b9, b10, b11, b12⟩
    · simpa [PCp, dk_up, nU, vU, e] using this
  · simpa [PCg, dk_up, nU, vU] using a2 r hr g hg
  · simpa [PCl, dk_up] using a3 c hc
  · simpa [PCw, dk_up] using a4
  · simpa [dk_up] using a5
  · simpa [PCv, dk_lv, dk_up, nU] using a6
theorem PC_log {a b c d : Nat} {x : Int32} (hC : PC N V E W T m) : PC N V E (W ++ [(a, b, c, d, x)]) T (dk_up (dk_up (dk_up (dk_up (dk_up (dk_up m (10, 0, 0) W.length (cI a)) (10, 1, 0) W.length (cI b)) (10, 2, 0) W.length (cI c)) (10, 3, 0) W.length (cI d)) (10, 4, 0) W.length x) (9, 0, 0) 5 (cI (W.length + 1))) := by
  obtain ⟨a1, a2, a3, a4, a5, a6⟩ := hC
  refine ⟨fun r hr => ?_, fun r hr g hg => ?_, fun c hc => ?_, ?_, ?_, ?_⟩
  · simpa [PCp, dk_up] using a1 r hr
  · simpa [PCg, dk_up] using a2 r hr g hg
  · simpa [PCl, dk_up] using a3 c hc
  · refine ⟨by simp [dk_up], fun k w hk => ?_⟩
    rcases Nat.lt_trichotomy k W.length with h | h | h
    · rw [List.getElem?_append_left h] at hk
      have := a4.2 k w hk
      have hne : ¬ k = W.length := by omega
      simpa [dk_up, hne] using this
    · subst h
      simp at hk
      subst hk
      simp [dk_up]
    · rw [List.getElem?_eq_none (by simp; omega)] at hk
      cases hk
  · simpa [dk_up] using a5
  · simpa [PCv, dk_up] using a6
theorem PC_app {c a b g : Nat} (hC : PC N V E W T m) (hg : g < 4) : PC N V (eU E c (E c ++ [(4 * a + g, b)])) W T (dk_up (dk_up (dk_up (dk_up m (8, c, 0) (E c).length (cI a)) (8, c, 1) (E c).length (cI b)) (8, c, 2) (E c).length (cI g)) (7, c, 0) 3 (cI ((E c).length + 1))) := by
  obtain ⟨a1, a2, a3, a4, a5, a6⟩ := hC
  refine ⟨fun r hr => ?_, fun r hr g hg => ?_, fun d hd => ?_, ?_, ?_, ?_⟩
  · simpa [PCp, dk_up] using a1 r hr
  · simpa [PCg, dk_up] using a2 r hr g hg
  · by_cases e : d = c
    · subst e
      have he : eU E d (E d ++ [(4 * a + g, b)]) d = E d ++ [(4 * a + g, b)] := if_pos rfl
      have d1 : (4 * a + g) / 4 = a := by omega
      have d2 : (4 * a + g) % 4 = g := by omega
      rw [PCl, he]
      refine ⟨by simp [dk_up], fun k w hk => ?_⟩
      rcases Nat.lt_trichotomy k (E d).length with h | h | h
      · rw [List.getElem?_append_left h] at hk
        have := (a3 d hd).2 k w hk
        have hne : ¬ k = (E d).length := by omega
        simpa [dk_up, hne] using this
      · subst h
        simp at hk
        subst hk
        simp [dk_up, d1, d2]
      · rw [List.getElem?_eq_none (by simp; omega)] at hk
        cases hk
    · have he : eU E c (E c ++ [(4 * a + g, b)]) d = E d := if_neg e
      have := a3 d hd
      rw [PCl, he]
      simpa [PCl, dk_up, e] using this
  · simpa [PCw, dk_up] using a4
  · simpa [dk_up] using a5
  · simpa [PCv, dk_up] using a6
theorem PC_found {a b g : Nat} (hC : PC N V E W T m) (h1 : N 3 p = 1) : PC (nU (nU (nU (nU N 11 p a) 12 p b) 13 p g) 3 p 2) V E W T (dk_up (dk_up (dk_up (dk_up m (2, p, 0) 11 (cI a)) (2, p, 0) 12 (cI b)) (2, p, 0) 13 (cI g)) (2, p, 0) 7 (cI 2)) := by
  obtain ⟨a1, a2, a3, a4, a5, a6⟩ := hC
  refine ⟨fun r hr => ?_, fun r hr g hg => ?_, fun c hc => ?_, ?_, ?_, ?_⟩
  · have := a1 r hr
    by_cases e : r = p
    · subst e
      simp [PCp, dk_up, nU, h1] at this ⊢
      simp [this]
      exact this.2.2.2.2.2.2.2.2.2.2.2
    · simpa [PCp, dk_up, nU, e] using this
  · simpa [PCg, dk_up, nU] using a2 r hr g hg
  · simpa [PCl, dk_up] using a3 c hc
  · simpa [PCw, dk_up] using a4
  · simpa [dk_up] using a5
  · simpa [PCv, dk_lv, dk_up, nU] using a6
end
