/-! spawn, guard, step on both sides -/
section
variable {L : Nat} {N : dkNN} {V : dkVV} {E : dkEE} {W : dkWW} {T n : Nat}
def dk_li (N : dkNN) (i : Nat) : List Nat := (List.range i).filter (fun p => N 0 p == 1)
theorem dk_li_le (i : Nat) : (dk_li N i).length ≤ i := by
  have := List.length_filter_le (fun p => N 0 p == 1) (List.range i)
  rw [List.length_range] at this
  exact this
theorem dk_li_1 {i : Nat} (h : N 0 i = 1) : dk_li N (i + 1) = dk_li N i ++ [i] := by
  simp [dk_li, List.range_succ, List.filter_append, h]
theorem dk_li_0 {i : Nat} (h : N 0 i = 0) : dk_li N (i + 1) = dk_li N i := by
  simp [dk_li, List.range_succ, List.filter_append, h]
def dk_lC (N : dkNN) (m : dkM) (i : Nat) : Prop := m (0, 0, 0) 4 = cI (dk_li N i).length ∧ ∀ k p, (dk_li N i)[k]? = some p → m (11, 0, 0) k = cI p
theorem cl_13_loop (hb : ∀ p, p < 16 → N 0 p ≤ 1) {l : Int64} {k q : Nat} : ∀ (j i : Nat), i + j = 16 → ∀ (m : dkM), (∀ p, p < 16 → m (2, p, 0) 3 = cI (N 0 p)) → dk_lC N m i → ∃ m', dk_Ev L (13, 7, [(1, vI (cI i)), (0, vR (0, 0, 0))], [], (m, l, .inl (), k, q)) ((m', l, .inl (), k, q), .inl none) ∧ dk_lC N m' 16 ∧ (∀ a f, ¬ (a = (0, 0, 0) ∧ f = 4) → a ≠ (11, 0, 0) → m' a f = m a f) := by
  intro j
  induction j with
  | zero =>
    intro i hi m hc hl
    have hi : i = 16 := by omega
    subst hi
    refine ⟨m, sg_13_7 ⟨rfl, rfl, rfl, rfl, trivial⟩ rfl ?_, hl, fun _ _ _ _ => rfl⟩
    simp (disch := omega) only [↓reduceIte, cI_lt, Nat.lt_irrefl]
    exact dk_ex_some
  | succ j ih =>
    intro i hi m hc hl
    have hi16 : i < 16 := by omega
    have ci := hc i hi16
    have hlen := dk_li_le (N := N) i
    by_cases h : N 0 i = 1
    · have hl1 : (dk_li N i).length < 16 := by omega
      obtain ⟨m', e, hl', hf⟩ := ih (i + 1) (by omega) (dk_up (dk_up m (11, 0, 0) (dk_li N i).length (cI i)) (0, 0, 0) 4 (cI ((dk_li N i).length + 1))) (fun p hp => by simpa [dk_up] using hc p hp) (by
        rw [dk_lC, dk_li_1 h]
        refine ⟨by simp [dk_up], fun k p hk => ?_⟩
        rcases Nat.lt_trichotomy k (dk_li N i).length with hh | hh | hh
        · rw [List.getElem?_append_left hh] at hk
          have := hl.2 k p hk
          have hne : ¬ k = (dk_li N i).length := by omega
          simpa [dk_up, hne] using this
        · subst hh
          simp at hk
          subst hk
          simp [dk_up]
        · rw [List.getElem?_eq_none (by simp; omega)] at hk
          cases hk)
      refine ⟨m', sg_13_7 ⟨rfl, rfl, rfl, rfl, trivial⟩ rfl ?_, hl', fun a f h1 h2 => ?_⟩
      · rw [h] at ci
        simp (disch := omega) only [↓reduceIte, cI_lt, cI_nat, cI_add, le_F, or_self, Nat.not_lt_zero, hi16, ci, n10, hl.1, dk_up_k]
        exact dk_ex_run e
      · rw [hf a f h1 h2, dk_up, if_neg h1, dk_up, if_neg (fun h => h2 h.1)]
    · have h : N 0 i = 0 := by have := hb i hi16; omega
      obtain ⟨m', e, hl', hf⟩ := ih (i + 1) (by omega) m hc (by rw [dk_lC, dk_li_0 h]; exact hl)
      refine ⟨m', sg_13_7 ⟨rfl, rfl, rfl, rfl, trivial⟩ rfl ?_, hl', hf⟩
      rw [h] at ci
      simp (disch := omega) only [↓reduceIte, cI_lt, cI_nat, cI_add, le_F, or_self, Nat.not_lt_zero, hi16, ci]
      exact dk_ex_run e
theorem cl_14 {p : Nat} {m : dkM} {l : Int64} {k q : Nat} (hp : p < 16) (hC : PC N V E W T m) (hb : ∀ p, p < 16 → N 0 p ≤ 1) (h0 : N 0 p = 0) : ∃ m', dk_Ev L (14, 0, [(0, vR (0, 0, 0)), (1, vI (cI p))], [], (m, l, .inl (), k, q)) ((m', l, .inl (), k, q), .inl none) ∧ PC (nU N 0 p 1) V E W T m' ∧ FrC m m' := by
  have c3 : m (2, p, 0) 3 = cI 0 := by rw [(hC.1 p hp).2.1, h0]
  obtain ⟨m', e, hl, hf⟩ := cl_13_loop (L := L) (N := nU N 0 p 1) (l := l) (k := k) (q := q) (fun r hr => by have := hb r hr; simp [nU]; grind) 16 0 rfl (dk_up (dk_up m (2, p, 0) 3 (cI 1)) (0, 0, 0) 4 (cI 0)) (fun r hr => by
    by_cases e : r = p
    · subst e; simp [dk_up, nU]
    · have := (hC.1 r hr).2.1
      simpa [dk_up, nU, e] using this) ⟨by simp [dk_up, dk_li], fun k p h => by simp [dk_li] at h⟩
  refine ⟨m', sg_14_0 ⟨rfl, rfl, rfl, rfl, trivial⟩ rfl ?_, ?_, fun a f ha => ?_⟩
  · simp (disch := omega) only [↓reduceIte, cI_lt, cI_nat, le_F, or_self, Nat.not_lt_zero, hp, c3]
    exact dk_ex_run (kv_14_29 (sg_13_0 ⟨rfl, rfl, trivial⟩ rfl (dk_ex_run e)) (sg_14_32 trivial rfl dk_ex_some))
  · obtain ⟨a1, a2, a3, a4, a5, a6⟩ := hC
    have kk : ∀ k i j f, k ≠ 0 → k ≠ 11 → ¬ (k = 2 ∧ i = p ∧ f = 3) → m' (k, i, j) f = m (k, i, j) f := fun k i j f h1 h2 h3 => by
      rw [hf _ _ (fun h => by simp at h; exact h1 h.1.1) (fun h => by simp at h; exact h2 h.1), dk_up, if_neg (fun h => by simp at h; exact h1 h.1.1), dk_up, if_neg (fun h => by simp at h; exact h3 ⟨h.1.1, h.1.2.1, h.2⟩)]
    have k5 : m' (0, 0, 0) 5 = m (0, 0, 0) 5 := by rw [hf _ _ (by simp) (by simp)]; simp [dk_up]
    have k3 : m' (2, p, 0) 3 = cI 1 := by rw [hf _ _ (by simp) (by simp)]; simp [dk_up]
    have kf : ∀ i f, f ≠ 3 → m' (2, i, 0) f = m (2, i, 0) f := fun i f h => kk _ _ _ _ (by decide) (by decide) (fun c => h c.2.2)
    have ki : ∀ i f, i ≠ p → m' (2, i, 0) f = m (2, i, 0) f := fun i f h => kk _ _ _ _ (by decide) (by decide) (fun c => h c.2.1)
    have ko : ∀ k i j f, k ≠ 0 → k ≠ 11 → k ≠ 2 → m' (k, i, j) f = m (k, i, j) f := fun k i j f h1 h2 h3 => kk _ _ _ _ h1 h2 (fun c => h3 c.1)
    refine ⟨fun r hr => ?_, fun r hr g hg => ?_, fun c hc => ?_, ?_, by rw [k5]; exact a5, hl⟩
    · have := a1 r hr
      by_cases e : r = p
      · subst e
        simp (disch := decide) [PCp, nU, kf, ko, k3] at this ⊢
        simp [this]
        exact this.2.2.2.2.2.2.2.2
      · simpa (disch := first | decide | assumption) [PCp, nU, e, ki, ko] using this
    · simpa (disch := decide) [PCg, nU, ko] using a2 r hr g hg
    · simpa (disch := decide) [PCl, ko] using a3 c hc
    · simpa (disch := decide) [PCw, ko] using a4
  · rw [hf a f (fun h => by rw [h.1] at ha; simp at ha) (fun h => by rw [h] at ha; simp at ha), dk_up, if_neg (fun h => by rw [h.1] at ha; simp at ha), dk_up, if_neg (fun h => by rw [h.1] at ha; simp at ha)]
theorem PM_spawn {p : Nat} {m : dkM} (hM : PM N V E W T m) : PM (nU N 0 p 1) V E W T (dk_up m (16, 2, 0) p (cI 1)) := by
  obtain ⟨h1, h2, h3, h4, h5⟩ := hM
  refine ⟨fun r hr => ?_, fun i hi => ?_, fun c hc => ?_, ?_, ?_⟩
  · have := h1 r hr
    by_cases e : r = p
    · subst e
      simp [PMp, dk_up, nU] at this ⊢
      simp [this]
      exact this.2.2.2.2.2.2.2
    · simpa [PMp, dk_up, nU, e] using this
  · simpa [PMg, dk_up, nU] using h2 i hi
  · simpa [PMl, dk_up] using h3 c hc
  · simpa [PMw, dk_up] using h4
  · simpa [dk_up] using h5
def dk_Bs (L : Nat) (jc : Nat) (ac : dkL) (jm : Nat) (am : dkL) (N : dkNN) (V : dkVV) (E : dkEE) (W : dkWW) (T n : Nat) : Prop :=
  ∃ N' c, (∀ (m : dkM) (l : Int64) (k q : Nat), q < 600 → PC N V E W T m → ∃ m' q', dk_Ev L (jc, 0, ac, [], (m, l, .inl (), k, q)) ((m', l, .inl (), k, q'), .inl (some (vI (cI c)))) ∧ PC N' V E W T m' ∧ FrC m m' ∧ q' ≤ q + 1) ∧ dk_Mo L jm am N V E W T N' V E W T c none ∧ IV N' E W T (n + 1)
theorem bo_refn {jc jm c : Nat} {ac am : dkL} (h : IV N E W T n) (hn : n + 1 ≤ 512) (h1 : ∀ (m : dkM) (l : Int64) (k q : Nat), q < 600 → PC N V E W T m → dk_Ev L (jc, 0, ac, [], (m, l, .inl (), k, q)) ((m, l, .inl (), k, q + 1), .inl (some (vI (cI c))))) (h2 : dk_Mo L jm am N V E W T N V E W T c none) : dk_Bs L jc ac jm am N V E W T n :=
  ⟨N, c, fun m l k q hq hC => ⟨m, q + 1, h1 m l k q hq hC, hC, FrC_refl, Nat.le_refl _⟩, h2, IV_up h (by omega) hn⟩
/-- spawn -/
theorem bo_spawn (x : Int32) (h : IV N E W T n) (hn : n + 1 ≤ 512) : dk_Bs L 15 [(0, vR (0, 0, 0)), (1, vI x)] 74 [(0, vR (12, 0, 0)), (1, vI x)] N V E W T n := by
  rcases cI_cases x with hx | ⟨p, hp0, rfl⟩
  · refine bo_refn h hn (c := 1) (fun m l k q hq hC => sg_15_0 ⟨rfl, rfl, rfl, rfl, trivial⟩ rfl (dk_ex_run (kc_15_2_1 (sg_14_0 ⟨rfl, rfl, rfl, rfl, trivial⟩ rfl ?_) (sg_15_9 trivial rfl dk_ex_some)))) (mo_1 (fun m l k q hM => sg_74_0 ⟨rfl, rfl, rfl, rfl, trivial⟩ rfl ?_))
    · simp only [↓reduceIte, hx, hq]; exact dk_ex_some
    · simp only [↓reduceIte, hx, dk_up_eq, n10]; exact dk_ex_some
  by_cases hp : p < 16
  rotate_left
  · have hp2 : 15 < p := by omega
    refine bo_refn h hn (c := 1) (fun m l k q hq hC => sg_15_0 ⟨rfl, rfl, rfl, rfl, trivial⟩ rfl (dk_ex_run (kc_15_2_1 (sg_14_0 ⟨rfl, rfl, rfl, rfl, trivial⟩ rfl ?_) (sg_15_9 trivial rfl dk_ex_some)))) (mo_1 (fun m l k q hM => sg_74_0 ⟨rfl, rfl, rfl, rfl, trivial⟩ rfl ?_))
    · simp (disch := omega) only [↓reduceIte, cI_lt, Nat.not_lt_zero, hp, hq]; exact dk_ex_some
    · simp (disch := omega) only [↓reduceIte, cI_lt, Nat.not_lt_zero, hp2, dk_up_eq, n10]; exact dk_ex_some
  have hp2 : ¬ 15 < p := by omega
  have b0 : N 0 p ≤ 1 := (h.1 p hp).1
  by_cases h0 : N 0 p = 0
  · refine ⟨nU N 0 p 1, 0, fun m l k q hq hC => ?_, fun m l k q hM => ⟨dk_up (dk_up m (12, 0, 0) 0 (cI 0)) (16, 2, 0) p (cI 1), sg_74_0 ⟨rfl, rfl, rfl, rfl, trivial⟩ rfl ?_, PM_spawn (PM_thr hM), FrM_up ⟨Nat.le_of_ble_eq_true rfl, Nat.ne_of_beq_eq_false rfl⟩ (FrM_up ⟨Nat.le_of_ble_eq_true rfl, Nat.ne_of_beq_eq_false rfl⟩ FrM_refl), by simp [dk_up]⟩, IV_spawn hp h hn⟩
    · obtain ⟨m', e, hC', hF⟩ := cl_14 (L := L) (l := l) (k := k) (q := q) hp hC (fun r hr => (h.1 r hr).1) h0
      exact ⟨m', q, sg_15_0 ⟨rfl, rfl, rfl, rfl, trivial⟩ rfl (dk_ex_run (kv_15_2 e (sg_15_5 trivial rfl dk_ex_some))), hC', hF, by omega⟩
    · have f2 : m (16, 2, 0) p = cI 0 := by rw [(hM.1 p hp).1, h0]
      simp (disch := omega) only [↓reduceIte, cI_lt, cI_nat, le_F, or_self, Nat.not_lt_zero, hp2, f2, dk_up_eq]; exact dk_ex_some
  have h0 : N 0 p = 1 := by omega
  refine bo_refn h hn (c := 2) (fun m l k q hq hC => sg_15_0 ⟨rfl, rfl, rfl, rfl, trivial⟩ rfl (dk_ex_run (kc_15_2_2 (sg_14_0 ⟨rfl, rfl, rfl, rfl, trivial⟩ rfl ?_) (sg_15_12 trivial rfl dk_ex_some)))) (mo_1 (fun m l k q hM => sg_74_0 ⟨rfl, rfl, rfl, rfl, trivial⟩ rfl ?_))
  · have e3 : m (2, p, 0) 3 = cI 1 := by rw [(hC.1 p hp).2.1, h0]
    simp (disch := omega) only [↓reduceIte, cI_lt, cI_nat, le_F, or_self, Nat.not_lt_zero, hp, e3, n10, hq]; exact dk_ex_some
  · have f2 : m (16, 2, 0) p = cI 1 := by rw [(hM.1 p hp).1, h0]
    simp (disch := omega) only [↓reduceIte, cI_lt, cI_nat, le_F, or_self, Nat.not_lt_zero, hp2, f2, n10, dk_up_eq, n20]; exact dk_ex_some
end
