/-! one step in both programs -/
section
variable {L : Nat} {N : dkNN} {V : dkVV} {E : dkEE} {W : dkWW} {T : Nat} {m : dkM} {l : Int64} {k q : Nat} {p : Nat}
theorem md_93_34 (hp : p < 16) (hM : PM N V E W T m) (h3 : N 3 p < 9) (h4 : N 4 p ≤ 3) : dk_Ev L (93, 34, [(0, vR (12, 0, 0)), (1, vI (cI p))], [], (m, l, .inl (), k, q)) ((m, l, .inl (), k, q), .inl (some (vI (cI (dk_an N p))))) := by
  have c7 : m (13, 6, 0) p = cI (N 3 p) := (hM.1 p hp).2.2.2.1
  have s0 : m (13, 3, 0) p = cI (N 4 p) := (hM.1 p hp).2.2.2.2.1
  have n9 : ¬ N 3 p = 9 := by omega
  refine sg_93_34 ⟨rfl, rfl, rfl, rfl, trivial⟩ rfl ?_
  by_cases a1 : N 3 p = 7
  · simp (disch := omega) only [↓reduceIte, c7, s0, cI_inj, cI_lt, cI_nat, le_F, Nat.not_lt_zero, or_self, dk_an, a1, Nat.reduceEqDiff]; exact dk_ex_some
  · by_cases a2 : N 3 p = 8
    · by_cases a3 : N 4 p = 3
      · simp (disch := omega) only [↓reduceIte, c7, s0, cI_inj, cI_lt, cI_nat, le_F, Nat.not_lt_zero, or_self, dk_an, a2, a3, Nat.reduceEqDiff]; exact dk_ex_some
      · simp (disch := omega) only [↓reduceIte, c7, s0, cI_inj, cI_lt, cI_nat, le_F, Nat.not_lt_zero, or_self, dk_an, a2, a3, Nat.reduceEqDiff]; exact dk_ex_some
    · simp (disch := omega) only [↓reduceIte, c7, s0, cI_inj, cI_lt, cI_nat, le_F, Nat.not_lt_zero, or_self, dk_an, a1, a2, n9]; exact dk_ex_some
theorem md_93_do {m' : dkM} {N' : dkNN} {V' : dkVV} {E' : dkEE} {W' : dkWW} (hp : p < 16) (hM : PM N V E W T m) (hb : N 4 p ≤ 3) (h3 : N 3 p < 9) (ho : N 3 p ≤ 2 ∨ N 3 p = 7 → N 4 p = 1 ∨ N 4 p = 2) (e : dk_Ev L (92, 0, [(0, vR (12, 0, 0)), (1, vI (cI p))], [], (m, l, .inl (), k, q)) ((m', l, .inl (), k, q), .inl none)) (hM' : PM N' V' E' W' T m') (h3' : N' 3 p < 9) (h4' : N' 4 p ≤ 3) : dk_Ev L (93, 0, [(0, vR (12, 0, 0)), (1, vI (cI p))], [], (m, l, .inl (), k, q)) ((m', l, .inl (), k, q), .inl (some (vI (cI (dk_an N' p))))) := by
  have c7 : m (13, 6, 0) p = cI (N 3 p) := (hM.1 p hp).2.2.2.1
  have s0 : m (13, 3, 0) p = cI (N 4 p) := (hM.1 p hp).2.2.2.2.1
  refine sg_93_0 ⟨rfl, rfl, rfl, rfl, trivial⟩ rfl ?_
  have key : ∀ r, dk_Ex (fun n => dk_run L (dk_OX L) (n + r) some (93, 31, [(0, vR (12, 0, 0)), (1, vI (cI p))], [vI (cI p), vR (12, 0, 0)], (m, l, .inl (), k, q))) ((m', l, .inl (), k, q), .inl (some (vI (cI (dk_an N' p))))) := fun r =>
    dk_ex_run (kv_93_31 e (md_93_34 hp hM' h3' h4'))
  have h9 : N 3 p = 0 ∨ N 3 p = 1 ∨ N 3 p = 2 ∨ N 3 p = 3 ∨ N 3 p = 4 ∨ N 3 p = 5 ∨ N 3 p = 6 ∨ N 3 p = 7 ∨ N 3 p = 8 := by omega
  have n43 : (N 3 p ≤ 2 ∨ N 3 p = 7) → ¬ N 4 p = 3 := fun h => by have := ho h; omega
  have n40 : (N 3 p ≤ 2 ∨ N 3 p = 7) → ¬ N 4 p = 0 := fun h => by have := ho h; omega
  rcases h9 with h | h | h | h | h | h | h | h | h <;> rw [h] at c7 n43 n40 <;> simp (disch := omega) only [↓reduceIte, c7, s0, cI_inj, cI_lt, cI_nat, le_F, Nat.not_lt_zero, or_self, n43, n40, Nat.reduceEqDiff] <;> exact key _
theorem md_93_over (hp : p < 16) (hM : PM N V E W T m) (h3 : (N 3 p ≤ 2 ∨ N 3 p = 7) ∧ (N 4 p = 0 ∨ N 4 p = 3)) : dk_Ev L (93, 0, [(0, vR (12, 0, 0)), (1, vI (cI p))], [], (m, l, .inl (), k, q)) ((dk_up m (13, 6, 0) p (cI 8), l, .inl (), k, q), .inl (some (vI (cI (if N 4 p = 3 then 2 else 3))))) := by
  have c7 : m (13, 6, 0) p = cI (N 3 p) := (hM.1 p hp).2.2.2.1
  have s0 : m (13, 3, 0) p = cI (N 4 p) := (hM.1 p hp).2.2.2.2.1
  have s0' : dk_up m (13, 6, 0) p (cI 8) (13, 3, 0) p = cI (N 4 p) := by rw [← s0]; simp [dk_up]
  refine sg_93_0 ⟨rfl, rfl, rfl, rfl, trivial⟩ rfl ?_
  obtain ⟨h3, h4⟩ := h3
  have h9 : N 3 p = 0 ∨ N 3 p = 1 ∨ N 3 p = 2 ∨ N 3 p = 7 := by omega
  rcases h9 with h | h | h | h <;> rcases h4 with h4 | h4 <;> rw [h] at c7 <;> rw [h4] at s0 s0' ⊢ <;> simp (disch := omega) only [↓reduceIte, c7, s0, s0', cI_inj, cI_lt, cI_nat, le_F, Nat.not_lt_zero, or_self, dk_up_eq, Nat.reduceEqDiff] <;> exact dk_ex_some
theorem md_93_idle (hp : p < 16) (hM : PM N V E W T m) (h3 : N 3 p = 9) : dk_Ev L (93, 0, [(0, vR (12, 0, 0)), (1, vI (cI p))], [], (m, l, .inl (), k, q)) ((m, l, .inl (), k, q), .inl (some (vI (cI (dk_an N p))))) := by
  have c7 : m (13, 6, 0) p = cI (N 3 p) := (hM.1 p hp).2.2.2.1
  refine sg_93_0 ⟨rfl, rfl, rfl, rfl, trivial⟩ rfl ?_
  rw [h3] at c7
  simp (disch := omega) only [↓reduceIte, c7, cI_lt, cI_nat, le_F, Nat.not_lt_zero, or_self, dk_an, h3, Nat.reduceEqDiff]
  exact dk_ex_some
/-- a step of p takes both programs from one desk to the other, with one answer -/
def dk_Stp (L : Nat) (N : dkNN) (V : dkVV) (E : dkEE) (W : dkWW) (T p : Nat) (N' : dkNN) (V' : dkVV) (E' : dkEE) (W' : dkWW) : Prop :=
  (∀ (m : dkM) (l : Int64) (k q : Nat), PC N V E W T m → ∃ m', dk_Ev L (49, 0, [(0, vR (0, 0, 0)), (1, vR (2, p, 0))], [], (m, l, .inl (), k, q)) ((m', l, .inl (), k, q), .inl (some (vI (cI (dk_an N' p))))) ∧ PC N' V' E' W' T m' ∧ FrC m m') ∧
  (∀ (m : dkM) (l : Int64) (k q : Nat), PM N V E W T m → ∃ m', dk_Ev L (93, 0, [(0, vR (12, 0, 0)), (1, vI (cI p))], [], (m, l, .inl (), k, q)) ((m', l, .inl (), k, q), .inl (some (vI (cI (dk_an N' p))))) ∧ PM N' V' E' W' T m' ∧ FrS m m')
theorem stp_of {n : Nat} {N' : dkNN} {V' : dkVV} {E' : dkEE} {W' : dkWW} (hp : p < 16) (h : IV N E W T n) (h9 : N 3 p ≤ 7) (ho : N 3 p ≤ 2 ∨ N 3 p = 7 → N 4 p = 1 ∨ N 4 p = 2)
    (hc : ∀ (m : dkM) (l : Int64) (k q : Nat), PC N V E W T m → ∃ m', dk_Ev L (47, 0, [(0, vR (0, 0, 0)), (1, vR (2, p, 0))], [], (m, l, .inl (), k, q)) ((m', l, .inl (), k, q), .inl none) ∧ PC N' V' E' W' T m' ∧ FrC m m')
    (hm : ∀ (m : dkM) (l : Int64) (k q : Nat), PM N V E W T m → ∃ m', dk_Ev L (92, 0, [(0, vR (12, 0, 0)), (1, vI (cI p))], [], (m, l, .inl (), k, q)) ((m', l, .inl (), k, q), .inl none) ∧ PM N' V' E' W' T m' ∧ FrS m m')
    (h' : IV N' E' W' T n) (h9' : N' 3 p ≠ 9) : dk_Stp L N V E W T p N' V' E' W' := by
  have b := h.1 p hp
  have b' := h'.1 p hp
  have b3 : N' 3 p ≤ 9 := b'.2.2.2.1
  refine ⟨fun m l k q hC => ?_, fun m l k q hM => ?_⟩
  · obtain ⟨m', e, hC', hF⟩ := hc m l k q hC
    exact ⟨m', cl_49_do hp hC b.2.2.2.2.1 (by omega) (by omega) ho e hC' b3 b'.2.2.2.2.1, hC', hF⟩
  · obtain ⟨m', e, hM', hF⟩ := hm m l k q hM
    exact ⟨m', md_93_do hp hM b.2.2.2.2.1 (by omega) ho e hM' (by omega) b'.2.2.2.2.1, hM', hF⟩
theorem cl_47_0 {m' : dkM} (hp : p < 16) (hC : PC N V E W T m) (h3 : N 3 p = 0) (e : dk_Ev L (32, 0, [(0, vR (0, 0, 0)), (1, vR (2, p, 0))], [], (m, l, .inl (), k, q)) ((m', l, .inl (), k, q), .inl none)) : dk_Ev L (47, 0, [(0, vR (0, 0, 0)), (1, vR (2, p, 0))], [], (m, l, .inl (), k, q)) ((m', l, .inl (), k, q), .inl none) := by
  have c7 : m (2, p, 0) 7 = cI (N 3 p) := (hC.1 p hp).2.2.2.2.1
  rw [h3] at c7
  refine sg_47_0 ⟨rfl, rfl, rfl, rfl, trivial⟩ rfl ?_
  simp only [↓reduceIte, c7]
  exact dk_ex_run (kv_47_50 e (sg_47_53 trivial rfl dk_ex_some))
theorem cl_47_1 {m' : dkM} (hp : p < 16) (hC : PC N V E W T m) (h3 : N 3 p = 1) (e : dk_Ev L (36, 0, [(0, vR (0, 0, 0)), (1, vR (2, p, 0))], [], (m, l, .inl (), k, q)) ((m', l, .inl (), k, q), .inl none)) : dk_Ev L (47, 0, [(0, vR (0, 0, 0)), (1, vR (2, p, 0))], [], (m, l, .inl (), k, q)) ((m', l, .inl (), k, q), .inl none) := by
  have c7 : m (2, p, 0) 7 = cI (N 3 p) := (hC.1 p hp).2.2.2.2.1
  rw [h3] at c7
  refine sg_47_0 ⟨rfl, rfl, rfl, rfl, trivial⟩ rfl ?_
  simp (disch := omega) only [↓reduceIte, c7, cI_inj, Nat.reduceEqDiff]
  exact dk_ex_run (kv_47_58 e (sg_47_61 trivial rfl dk_ex_some))
theorem md_92_0 {m' : dkM} (hp : p < 16) (hM : PM N V E W T m) (h3 : N 3 p = 0) (e : dk_Ev L (84, 0, [(0, vR (12, 0, 0)), (1, vI (cI p))], [], (m, l, .inl (), k, q)) ((m', l, .inl (), k, q), .inl none)) : dk_Ev L (92, 0, [(0, vR (12, 0, 0)), (1, vI (cI p))], [], (m, l, .inl (), k, q)) ((m', l, .inl (), k, q), .inl none) := by
  have c7 : m (13, 6, 0) p = cI (N 3 p) := (hM.1 p hp).2.2.2.1
  rw [h3] at c7
  refine sg_92_0 ⟨rfl, rfl, rfl, rfl, trivial⟩ rfl ?_
  simp (disch := omega) only [↓reduceIte, c7, cI_lt, cI_nat, le_F, Nat.not_lt_zero, or_self]
  exact dk_ex_run (kv_92_13 e (sg_92_16 trivial rfl dk_ex_some))
theorem md_92_1 {m' : dkM} (hp : p < 16) (hM : PM N V E W T m) (h3 : N 3 p = 1) (e : dk_Ev L (85, 0, [(0, vR (12, 0, 0)), (1, vI (cI p))], [], (m, l, .inl (), k, q)) ((m', l, .inl (), k, q), .inl none)) : dk_Ev L (92, 0, [(0, vR (12, 0, 0)), (1, vI (cI p))], [], (m, l, .inl (), k, q)) ((m', l, .inl (), k, q), .inl none) := by
  have c7 : m (13, 6, 0) p = cI (N 3 p) := (hM.1 p hp).2.2.2.1
  rw [h3] at c7
  refine sg_92_0 ⟨rfl, rfl, rfl, rfl, trivial⟩ rfl ?_
  simp (disch := omega) only [↓reduceIte, c7, cI_inj, cI_lt, cI_nat, le_F, Nat.not_lt_zero, or_self, Nat.reduceEqDiff]
  exact dk_ex_run (kv_92_26 e (sg_92_29 trivial rfl dk_ex_some))
end
section
variable {L : Nat} {N : dkNN} {V : dkVV} {E : dkEE} {W : dkWW} {T n p : Nat}
theorem nx_some_b {g : Nat} (e : dk_nx N p (N 1 p - (N 8 p + 1)) (N 8 p + 1) = g + 1) (h8 : N 8 p < N 1 p) : N 8 p < g ∧ g < N 1 p ∧ N 18 (4 * p + g) = 1 := by
  rcases dk_nx_spec (N := N) (p := p) (N 1 p - (N 8 p + 1)) (N 8 p + 1) with h | ⟨j, h, h1, h2, h3⟩
  · omega
  · have : j = g := by omega
    subst this
    exact ⟨by omega, by omega, h3⟩
/-- every step -/
theorem step_all (hp : p < 16) (h : IV N E W T n) : ∃ N' V' E' W', dk_Stp L N V E W T p N' V' E' W' ∧ IV N' E' W' T n ∧ (∀ i, N' 0 i = N 0 i) := by
  have hB := IV_BD h
  have b := h.1 p hp
  have iv := h.2.2.1 p hp
  have b3 : N 3 p ≤ 9 := b.2.2.2.1
  have b4 : N 4 p ≤ 3 := b.2.2.2.2.1
  by_cases h9 : N 3 p = 9
  · refine ⟨N, V, E, W, ⟨fun m l k q hC => ⟨m, cl_49_do hp hC b4 b3 (by omega) (fun h => by omega) (cl_47_no hp hC (by omega)) hC b3 b4, hC, FrC_refl⟩, fun m l k q hM => ⟨m, md_93_idle hp hM h9, hM, FrS_refl⟩⟩, h, fun _ => rfl⟩
  by_cases h8 : N 3 p = 8
  · have e0 : nU N 3 p 8 = N := by rw [← h8]; exact nU_self
    refine ⟨N, V, E, W, ⟨fun m l k q hC => ⟨_, cl_49_end hp hC h8 b4, ?_, FrC_up (Nat.le_of_ble_eq_true rfl) FrC_refl⟩, fun m l k q hM => ⟨m, md_93_do hp hM b4 (by omega) (fun h => by omega) (md_92_no hp hM (by omega)) hM (by omega) b4, hM, FrS_refl⟩⟩, h, fun _ => rfl⟩
    have h2 := PC_pr (p := p) (x3 := 8) (x8 := N 8 p) (x9 := N 9 p) (x10 := N 10 p) (m' := dk_up m (2, p, 0) 7 (cI 8)) hC h9 (fun h => by omega) (fun h => by omega) (fun a g h => if_neg (fun e => h ⟨e.1, Or.inl e.2⟩)) dk_up_eq (fun h => by omega) (fun h => by omega)
    rw [nQ_keep rfl rfl rfl, e0] at h2
    exact h2
  by_cases ov : (N 3 p ≤ 2 ∨ N 3 p = 7) ∧ (N 4 p = 0 ∨ N 4 p = 3)
  · refine ⟨nQ N p 8 0 0 0, V, E, W, ⟨fun m l k q hC => ⟨dk_up m (2, p, 0) 7 (cI 8), ?_, PC_pr hC h9 (fun h => by omega) (fun h => by omega) (fun a g h => if_neg (fun e => h ⟨e.1, Or.inl e.2⟩)) dk_up_eq (fun h => by omega) (fun h => by omega), FrC_up (Nat.le_of_ble_eq_true rfl) FrC_refl⟩, fun m l k q hM => ⟨dk_up m (13, 6, 0) p (cI 8), ?_, PM_pr hM h9 (fun h => by omega) (by decide) (fun a g h => if_neg (fun e => h ⟨e.2, Or.inl e.1⟩)) dk_up_eq (fun h => by omega) (fun h => by omega), FrS_up ⟨Nat.le_of_ble_eq_true rfl, Nat.ne_of_beq_eq_false rfl⟩ rfl FrS_refl⟩⟩, IV_pr hp h h9 (by omega) (Or.inr (Or.inr (Or.inl ⟨rfl, ov.2⟩))), fun i => by simp [nQ, nU]⟩
    · have := cl_49_over (L := L) (l := l) (k := k) (q := q) hp hC ov
      have e : dk_an (nQ N p 8 0 0 0) p = if N 4 p = 3 then 2 else 3 := by simp [dk_an, nQ, nU]
      rw [e]; exact this
    · have := md_93_over (L := L) (l := l) (k := k) (q := q) hp hM ov
      have e : dk_an (nQ N p 8 0 0 0) p = if N 4 p = 3 then 2 else 3 := by simp [dk_an, nQ, nU]
      rw [e]; exact this
  have ho : N 3 p ≤ 2 ∨ N 3 p = 7 → N 4 p = 1 ∨ N 4 p = 2 := fun hh => by
    have : ¬ (N 4 p = 0 ∨ N 4 p = 3) := fun h4 => ov ⟨hh, h4⟩
    omega
  have h7 : N 3 p ≤ 7 := by omega
  by_cases h6 : N 3 p = 7
  · exact ⟨N, V, E, W, stp_of hp h h7 ho (fun m l k q hC => ⟨m, cl_47_no hp hC (by omega), hC, FrC_refl⟩) (fun m l k q hM => ⟨m, md_92_no hp hM (by omega), hM, FrS_refl⟩) h h9, h, fun _ => rfl⟩
  obtain ⟨g8, gon⟩ : N 8 p < N 1 p ∧ N 18 (4 * p + N 8 p) = 1 := b.2.2.2.2.2.2.2.2.1 (by omega)
  obtain ⟨j0, hj0, hj0a, hj0b⟩ := dk_nx_own g8 gon
  have b1 : N 1 p ≤ 4 := b.2.1
  have hc8 : N 17 (4 * p + N 8 p) < 8 := (hB.2.1 (4 * p + N 8 p) (by omega)).2.1
  by_cases h0 : N 3 p = 0
  · have hr := IV_room hp h h0 hc8
    cases hj : dk_nx N p (N 1 p - (N 8 p + 1)) (N 8 p + 1) with
    | zero =>
      have h' := IV_app (c := N 17 (4 * p + N 8 p)) (x3 := 1) (x8 := j0) (x9 := 0) (x10 := 1) hp h h0 ⟨hj0a, hj0b, by omega, by omega⟩ (Or.inr rfl)
      refine ⟨_, V, _, W, stp_of hp h h7 ho (fun m l k q hC => ?_) (fun m l k q hM => ?_) h' (by simp [nQ, nU]), h', fun i => by simp [nQ, nU]⟩
      · obtain ⟨m', e, hC', hF⟩ := cl_32l (L := L) (l := l) (k := k) (q := q) hp hC hB h0 hr hj hj0
        exact ⟨m', cl_47_0 hp hC h0 e, hC', hF⟩
      · obtain ⟨m', e, hM', hF⟩ := md_84l (L := L) (l := l) (k := k) (q := q) hp hM hB h0 hr hj hj0
        exact ⟨m', md_92_0 hp hM h0 e, hM', hF⟩
    | succ j =>
      have hb := nx_some_b hj g8
      have h' := IV_app (c := N 17 (4 * p + N 8 p)) (x3 := 0) (x8 := j) (x9 := 0) (x10 := 0) hp h h0 ⟨hb.2.1, hb.2.2, by omega, by omega⟩ (Or.inl ⟨rfl, hb.1⟩)
      refine ⟨_, V, _, W, stp_of hp h h7 ho (fun m l k q hC => ?_) (fun m l k q hM => ?_) h' (by simp [nQ, nU]), h', fun i => by simp [nQ, nU]⟩
      · obtain ⟨m', e, hC', hF⟩ := cl_32n (L := L) (l := l) (k := k) (q := q) hp hC hB h0 hr hj
        exact ⟨m', cl_47_0 hp hC h0 e, hC', hF⟩
      · obtain ⟨m', e, hM', hF⟩ := md_84n (L := L) (l := l) (k := k) (q := q) hp hM hB h0 hr hj
        exact ⟨m', md_92_0 hp hM h0 e, hM', hF⟩
  by_cases h1 : N 3 p = 1
  · obtain ⟨b9, b10, -⟩ := b.2.2.2.2.2.2.2.2.2.1 (by omega)
    by_cases hlen : (E (N 17 (4 * p + N 8 p))).length ≤ N 9 p
    · cases hj : dk_nx N p (N 1 p - (N 8 p + 1)) (N 8 p + 1) with
      | zero =>
        by_cases h10 : N 10 p = 1
        · have h' := IV_pr (x3 := 7) (x8 := 0) (x9 := 0) (x10 := 0) hp h h9 (by omega) (Or.inr (Or.inl rfl))
          refine ⟨_, V, E, W, stp_of hp h h7 ho (fun m l k q hC => ?_) (fun m l k q hM => ?_) h' (by simp [nQ, nU]), h', fun i => by simp [nQ, nU]⟩
          · obtain ⟨m', e, hC', hF⟩ := cl_33s (L := L) (l := l) (k := k) (q := q) hp hC hB h1 h10 hj
            exact ⟨m', cl_47_1 hp hC h1 (cl_36_past hp hC hB h1 hlen e), hC', hF⟩
          · obtain ⟨m', e, hM', hF⟩ := md_85s (L := L) (l := l) (k := k) (q := q) hp hM hB h1 hlen h10 hj
            exact ⟨m', md_92_1 hp hM h1 e, hM', hF⟩
        · have h10 : N 10 p = 0 := by omega
          have h' := IV_pr (x3 := 1) (x8 := j0) (x9 := 0) (x10 := 1) hp h h9 (by omega) (Or.inl ⟨rfl, hj0a, hj0b, by omega, by omega⟩)
          refine ⟨_, V, E, W, stp_of hp h h7 ho (fun m l k q hC => ?_) (fun m l k q hM => ?_) h' (by simp [nQ, nU]), h', fun i => by simp [nQ, nU]⟩
          · obtain ⟨m', e, hC', hF⟩ := cl_33l (L := L) (l := l) (k := k) (q := q) hp hC hB h1 h10 hj hj0
            exact ⟨m', cl_47_1 hp hC h1 (cl_36_past hp hC hB h1 hlen e), hC', hF⟩
          · obtain ⟨m', e, hM', hF⟩ := md_85l (L := L) (l := l) (k := k) (q := q) hp hM hB h1 hlen h10 hj hj0
            exact ⟨m', md_92_1 hp hM h1 e, hM', hF⟩
      | succ j =>
        have hb := nx_some_b hj g8
        have h' := IV_pr (x3 := 1) (x8 := j) (x9 := 0) (x10 := N 10 p) hp h h9 (by omega) (Or.inl ⟨rfl, hb.2.1, hb.2.2, by omega, by omega⟩)
        refine ⟨_, V, E, W, stp_of hp h h7 ho (fun m l k q hC => ?_) (fun m l k q hM => ?_) h' (by simp [nQ, nU]), h', fun i => by simp [nQ, nU]⟩
        · obtain ⟨m', e, hC', hF⟩ := cl_33n (L := L) (l := l) (k := k) (q := q) hp hC hB h1 hj
          exact ⟨m', cl_47_1 hp hC h1 (cl_36_past hp hC hB h1 hlen e), hC', hF⟩
        · obtain ⟨m', e, hM', hF⟩ := md_85n (L := L) (l := l) (k := k) (q := q) hp hM hB h1 hlen hj
          exact ⟨m', md_92_1 hp hM h1 e, hM', hF⟩
    · have hlt : N 9 p < (E (N 17 (4 * p + N 8 p))).length := by omega
      have hle : (E (N 17 (4 * p + N 8 p))).length ≤ 64 := (hB.2.2.1 _ hc8).1
      have he : (E (N 17 (4 * p + N 8 p)))[N 9 p]? = some ((E (N 17 (4 * p + N 8 p)))[N 9 p]) := List.getElem?_eq_getElem hlt
      generalize (E (N 17 (4 * p + N 8 p)))[N 9 p] = e at he
      have h' : IV (if e.1 / 4 ≠ p ∧ N 16 e.1 ≠ N 16 (4 * p + N 8 p) then nU (nU (nU (nU N 11 p (e.1 / 4)) 12 p e.2) 13 p (e.1 % 4)) 3 p 2 else nQ N p 1 (N 8 p) (N 9 p + 1) (N 10 p)) E W T n := by
        by_cases a : e.1 / 4 ≠ p ∧ N 16 e.1 ≠ N 16 (4 * p + N 8 p)
        · rw [if_pos a]; exact IV_found hp hc8 h h1 (List.mem_of_getElem? he) a.1 (by omega)
        · rw [if_neg a]; exact IV_pr hp h h9 (by omega) (Or.inl ⟨rfl, g8, gon, by omega, by omega⟩)
      refine ⟨_, V, E, W, stp_of hp h h7 ho (fun m l k q hC => ?_) (fun m l k q hM => ?_) h' ?_, h', fun i => ?_⟩
      · obtain ⟨m', e, hC', hF⟩ := cl_36_at (L := L) (l := l) (k := k) (q := q) hp hC hB h1 he
        exact ⟨m', cl_47_1 hp hC h1 e, hC', hF⟩
      · obtain ⟨m', e, hM', hF⟩ := md_85_at (L := L) (l := l) (k := k) (q := q) hp hM hB h1 he
        exact ⟨m', md_92_1 hp hM h1 e, hM', hF⟩
      · split <;> simp [nQ, nU]
      · split <;> simp [nQ, nU]
  obtain ⟨w1, w2, w3, w4⟩ := b.2.2.2.2.2.2.2.2.2.2 (by omega)
  by_cases h2 : N 3 p = 2
  · obtain ⟨b9, b10, b93⟩ := b.2.2.2.2.2.2.2.2.2.1 (by omega)
    have b93 := b93 (by omega)
    obtain ⟨f, hf⟩ : ∃ f, (f = p ∧ p < N 11 p) ∨ (f = N 11 p ∧ N 11 p < p) := by
      rcases Nat.lt_or_gt_of_ne w4 with hh | hh
      · exact ⟨_, Or.inr ⟨rfl, hh⟩⟩
      · exact ⟨_, Or.inl ⟨rfl, hh⟩⟩
    have hf16 : f < 16 := by omega
    by_cases hr : f = p ∨ N 5 f = N 12 p
    · by_cases h4 : N 4 f = 1
      · have h' := IV_claim (f := f) (x3 := 3) hp h hf16 h4 hr (Or.inl ⟨rfl, h2, hf⟩)
        refine ⟨_, V, E, W, stp_of hp h h7 ho (fun m l k q hC => cl_47_2a hp hC hB h2 hf hr h4) (fun m l k q hM => md_92_2a hp hM hB h2 hf hr h4) h' (by simp [nU]), h', fun i => by simp [nU]⟩
      · by_cases h42 : N 4 f = 2
        · have h' := IV_pr (x3 := 1) (x8 := N 8 p) (x9 := N 9 p + 1) (x10 := 0) hp h h9 (by omega) (Or.inl ⟨rfl, g8, gon, by omega, by omega⟩)
          refine ⟨_, V, E, W, stp_of hp h h7 ho (fun m l k q hC => cl_47_2b hp hC hB h2 hf hr h42) (fun m l k q hM => md_92_2b hp hM hB h2 hf hr h42) h' (by simp [nQ, nU]), h', fun i => by simp [nQ, nU]⟩
        · have h' := IV_pr (x3 := 1) (x8 := N 8 p) (x9 := N 9 p + 1) (x10 := N 10 p) hp h h9 (by omega) (Or.inl ⟨rfl, g8, gon, by omega, by omega⟩)
          refine ⟨_, V, E, W, stp_of hp h h7 ho (fun m l k q hC => cl_47_2c hp hC hB h2 hf (fun _ => ⟨h4, h42⟩)) (fun m l k q hM => md_92_2c hp hM hB h2 hf (fun _ => ⟨h4, h42⟩)) h' (by simp [nQ, nU]), h', fun i => by simp [nQ, nU]⟩
    · have h' := IV_pr (x3 := 1) (x8 := N 8 p) (x9 := N 9 p + 1) (x10 := N 10 p) hp h h9 (by omega) (Or.inl ⟨rfl, g8, gon, by omega, by omega⟩)
      refine ⟨_, V, E, W, stp_of hp h h7 ho (fun m l k q hC => cl_47_2c hp hC hB h2 hf (fun h => absurd h hr)) (fun m l k q hM => md_92_2c hp hM hB h2 hf (fun h => absurd h hr)) h' (by simp [nQ, nU]), h', fun i => by simp [nQ, nU]⟩
  by_cases h3 : N 3 p = 3
  · obtain ⟨b9, b10, b93⟩ := b.2.2.2.2.2.2.2.2.2.1 (by omega)
    obtain ⟨f, hf⟩ : ∃ f, (f = p ∧ N 11 p < p) ∨ (f = N 11 p ∧ p < N 11 p) := by
      rcases Nat.lt_or_gt_of_ne w4 with hh | hh
      · exact ⟨_, Or.inl ⟨rfl, hh⟩⟩
      · exact ⟨_, Or.inr ⟨rfl, hh⟩⟩
    have hf16 : f < 16 := by omega
    by_cases hr : f = p ∨ N 5 f = N 12 p
    · by_cases h4 : N 4 f = 1
      · have h' := IV_claim (f := f) (x3 := 5) hp h hf16 h4 hr (Or.inr ⟨rfl, h3, hf⟩)
        refine ⟨_, V, E, W, stp_of hp h h7 ho (fun m l k q hC => cl_47_3a hp hC hB h3 hf hr h4) (fun m l k q hM => md_92_3a hp hM hB h3 hf hr h4) h' (by simp [nU]), h', fun i => by simp [nU]⟩
      · by_cases h42 : N 4 f = 2
        · have h' := IV_pr (x3 := 4) (x8 := N 8 p) (x9 := N 9 p) (x10 := 0) hp h h9 (by omega) (Or.inr (Or.inr (Or.inr ⟨rfl, h3, rfl, rfl, by omega⟩)))
          refine ⟨_, V, E, W, stp_of hp h h7 ho (fun m l k q hC => cl_47_3b hp hC hB h3 hf hr h42) (fun m l k q hM => md_92_3b hp hM hB h3 hf hr h42) h' (by simp [nQ, nU]), h', fun i => by simp [nQ, nU]⟩
        · have h' := IV_pr (x3 := 4) (x8 := N 8 p) (x9 := N 9 p) (x10 := N 10 p) hp h h9 (by omega) (Or.inr (Or.inr (Or.inr ⟨rfl, h3, rfl, rfl, by omega⟩)))
          refine ⟨_, V, E, W, stp_of hp h h7 ho (fun m l k q hC => cl_47_3c hp hC hB h3 hf (fun _ => ⟨h4, h42⟩)) (fun m l k q hM => md_92_3c hp hM hB h3 hf (fun _ => ⟨h4, h42⟩)) h' (by simp [nQ, nU]), h', fun i => by simp [nQ, nU]⟩
    · have h' := IV_pr (x3 := 4) (x8 := N 8 p) (x9 := N 9 p) (x10 := N 10 p) hp h h9 (by omega) (Or.inr (Or.inr (Or.inr ⟨rfl, h3, rfl, rfl, by omega⟩)))
      refine ⟨_, V, E, W, stp_of hp h h7 ho (fun m l k q hC => cl_47_3c hp hC hB h3 hf (fun h => absurd h hr)) (fun m l k q hM => md_92_3c hp hM hB h3 hf (fun h => absurd h hr)) h' (by simp [nQ, nU]), h', fun i => by simp [nQ, nU]⟩
  by_cases h4 : N 3 p = 4
  · obtain ⟨b9, b10, b93⟩ := b.2.2.2.2.2.2.2.2.2.1 (by omega)
    have b93 := b93 (by omega)
    obtain ⟨f, hf⟩ : ∃ f, (f = p ∧ p < N 11 p) ∨ (f = N 11 p ∧ N 11 p < p) := by
      rcases Nat.lt_or_gt_of_ne w4 with hh | hh
      · exact ⟨_, Or.inr ⟨rfl, hh⟩⟩
      · exact ⟨_, Or.inl ⟨rfl, hh⟩⟩
    have h' := IV_back (f := f) (x9 := N 9 p + 1) hp h h4 hf (by omega)
    exact ⟨_, V, E, W, stp_of hp h h7 ho (fun m l k q hC => cl_47_4 hp hC hB h4 hf) (fun m l k q hM => md_92_4 hp hM hB h4 hf) h' (by simp [nU]), h', fun i => by simp [nU]⟩
  by_cases h5 : N 3 p = 5
  · have hd : N 4 p ≠ 3 := by have := iv.2.2.2.2.2.2.1 h5; omega
    by_cases hk : N 16 (4 * p + N 8 p) = 1
    · obtain ⟨h', hW⟩ := IV_tell (x := (p, N 11 p, N 17 (4 * p + N 8 p), p, V 0 (4 * p + N 8 p))) hp h h5
      exact ⟨_, _, E, _, stp_of hp h h7 ho (fun m l k q hC => cl_47_5s hp hC hB hW h5 hk) (fun m l k q hM => md_92_5s hp hM hB hW h5 hd hk) h' (by simp [nT, nU]), h', fun i => by simp [nT, nU]⟩
    · have hk0 : N 16 (4 * p + N 8 p) = 0 := by have := (hB.2.1 (4 * p + N 8 p) (by omega)).1; omega
      obtain ⟨h', hW⟩ := IV_tell (x := (p, N 11 p, N 17 (4 * p + N 8 p), N 11 p, V 0 (4 * N 11 p + N 13 p))) hp h h5
      exact ⟨_, _, E, _, stp_of hp h h7 ho (fun m l k q hC => cl_47_5r hp hC hB hW h5 hk0) (fun m l k q hM => md_92_5r hp hM hB hW h5 hd hk0) h' (by simp [nT, nU]), h', fun i => by simp [nT, nU]⟩
  · have h6 : N 3 p = 6 := by omega
    obtain ⟨-, -, i14, i15⟩ := iv.2.2.2.2.2.2.2.1 h6
    have h' := IV_close hp h h6
    exact ⟨_, V, E, W, stp_of hp h h7 ho (fun m l k q hC => cl_47_6 hp hC hB h6) (fun m l k q hM => md_92_6 hp hM hB h6 i14 i15) h' (by simp [nU]), h', fun i => by simp [nU]⟩
end
