/-! cancel and finish on both sides -/
section
variable {L : Nat} {N : dkNN} {V : dkVV} {E : dkEE} {W : dkWW} {T n : Nat}
theorem cJ_cI {a p : Nat} (ha : a < 2147483648) (hp : p + 1 < 2147483648) : (cJ a = cI p) = (a = p + 1) := by
  have : cI p = cJ (p + 1) := rfl
  rw [this]
  exact propext (cJ_inj ha hp)
theorem cl_52_loop {p : Nat} {m : dkM} {l : Int64} {k q : Nat} (hp : p < 16) (h0 : m (2, p, 0) 0 = cI p) (hh : ∀ r, r < 16 → m (3, r, 0) 2 = cJ (N 6 r) ∧ N 6 r ≤ 16) {b : Nat} : ∀ (j i : Nat), i + j = 16 → (b = 1 ∧ (∃ r, i ≤ r ∧ r < 16 ∧ N 6 r = p + 1)) ∨ (b = 0 ∧ ∀ r, i ≤ r → r < 16 → N 6 r ≠ p + 1) → dk_Ev L (52, 2, [(2, vI (cI i)), (0, vR (0, 0, 0)), (1, vR (2, p, 0))], [], (m, l, .inl (), k, q)) ((m, l, .inl (), k, q), .inl (some (vI (cI b)))) := by
  intro j
  induction j with
  | zero =>
    intro i hi hb
    have hi : i = 16 := by omega
    subst hi
    have hb0 : b = 0 := by
      rcases hb with ⟨-, r, h1, h2, -⟩ | ⟨h, -⟩
      · omega
      · exact h
    subst hb0
    refine sg_52_2 ⟨rfl, rfl, rfl, rfl, rfl, rfl, trivial⟩ rfl ?_
    simp (disch := omega) only [↓reduceIte, cI_lt, Nat.lt_irrefl]
    exact dk_ex_some
  | succ j ih =>
    intro i hi hb
    have hi16 : i < 16 := by omega
    obtain ⟨e1, e2⟩ := hh i hi16
    refine sg_52_2 ⟨rfl, rfl, rfl, rfl, rfl, rfl, trivial⟩ rfl ?_
    by_cases a : N 6 i = p + 1
    · have hb1 : b = 1 := by
        rcases hb with ⟨h, -⟩ | ⟨-, h⟩
        · exact h
        · exact absurd a (h i (Nat.le_refl _) hi16)
      subst hb1
      simp (disch := omega) only [↓reduceIte, cI_lt, cI_nat, le_F, or_self, Nat.not_lt_zero, hi16, e1, h0, cJ_cI, a]
      exact dk_ex_some
    · simp (disch := omega) only [↓reduceIte, cI_lt, cI_nat, cI_add, le_F, or_self, Nat.not_lt_zero, hi16, e1, h0, cJ_cI, a]
      refine dk_ex_run (ih (i + 1) (by omega) ?_)
      rcases hb with ⟨h, r, h1, h2, h3⟩ | ⟨h, h1⟩
      · refine Or.inl ⟨h, r, ?_, h2, h3⟩
        have : r ≠ i := fun e => a (e ▸ h3)
        omega
      · exact Or.inr ⟨h, fun r hr => h1 r (by omega)⟩
theorem md_97_loop {p : Nat} {m : dkM} {l : Int64} {k q : Nat} (hp : p < 16) (hh : ∀ r, r < 16 → m (13, 5, 0) r = cJ (N 6 r) ∧ N 6 r ≤ 16) {y : dkY} {b : Nat} : ∀ (j i b0 : Nat), i + j = 16 → (b = 1 ∧ b0 ≤ 1 ∧ (b0 = 1 ∨ ∃ r, i ≤ r ∧ r < 16 ∧ N 6 r = p + 1)) ∨ (b = 0 ∧ b0 = 0 ∧ ∀ r, i ≤ r → r < 16 → N 6 r ≠ p + 1) → dk_Ev L (97, 36, [(3, vI (cI 16)), (2, vI (cI b)), (0, vR (12, 0, 0)), (1, vI (cI p))], [], (m, l, .inl (), k, q)) y → dk_Ev L (97, 36, [(3, vI (cI i)), (2, vI (cI b0)), (0, vR (12, 0, 0)), (1, vI (cI p))], [], (m, l, .inl (), k, q)) y := by
  intro j
  induction j with
  | zero =>
    intro i b0 hi hb hk
    have hi : i = 16 := by omega
    subst hi
    have hbb : b0 = b := by
      rcases hb with ⟨h, h0, h1 | ⟨r, h1, h2, -⟩⟩ | ⟨h, h1, -⟩
      · omega
      · omega
      · omega
    subst hbb
    exact hk
  | succ j ih =>
    intro i b0 hi hb hk
    have hi16 : i < 16 := by omega
    obtain ⟨e1, e2⟩ := hh i hi16
    refine sg_97_36 ⟨rfl, rfl, rfl, rfl, rfl, rfl, rfl, rfl, trivial⟩ rfl ?_
    by_cases c : b0 = 0
    · by_cases a : N 6 i = p + 1
      · have hb1 : b = 1 := by
          rcases hb with ⟨h, -⟩ | ⟨-, -, h⟩
          · exact h
          · exact absurd a (h i (Nat.le_refl _) hi16)
        subst c
        simp (disch := omega) only [↓reduceIte, cI_lt, cI_nat, cI_add, le_F, or_self, Nat.not_lt_zero, hi16, e1, cJ_cI, a]
        exact dk_ex_run (ih (i + 1) 1 (by omega) (Or.inl ⟨hb1, by omega, Or.inl rfl⟩) hk)
      · subst c
        simp (disch := omega) only [↓reduceIte, cI_lt, cI_nat, cI_add, le_F, or_self, Nat.not_lt_zero, hi16, e1, cJ_cI, a]
        refine dk_ex_run (ih (i + 1) 0 (by omega) ?_ hk)
        rcases hb with ⟨h, h0, h1 | ⟨r, h1, h2, h3⟩⟩ | ⟨h, h1, h2⟩
        · omega
        · refine Or.inl ⟨h, by omega, Or.inr ⟨r, ?_, h2, h3⟩⟩
          have : r ≠ i := fun e => a (e ▸ h3)
          omega
        · exact Or.inr ⟨h, rfl, fun r hr => h2 r (by omega)⟩
    · have hb1 : b = 1 ∧ b0 = 1 := by
        rcases hb with ⟨h, h0, -⟩ | ⟨h, h1, -⟩
        · exact ⟨h, by omega⟩
        · omega
      obtain ⟨hb1, rfl⟩ := hb1
      simp (disch := omega) only [↓reduceIte, cI_lt, cI_add, n10, hi16]
      exact dk_ex_run (ih (i + 1) 1 (by omega) (Or.inl ⟨hb1, by omega, Or.inl rfl⟩) hk)
def dk_Rb (b : Int64) (o : Option dkV) : Prop := ∃ z : Nat, z ≤ 1 ∧ o = some (vI (cI z)) ∧ b = if z = 0 then 0 else 1
theorem bo_refb {jc jm c : Nat} {ac am : dkL} (h : IV N E W T n) (hn : n + 1 ≤ 512) (h1 : dk_Cl L jc ac N V E W T N V E W T c 0) (h2 : dk_Mo L jm am N V E W T N V E W T c (some (vI (cI 0)))) : dk_Bo L jc ac jm am N V E W T n dk_Rb :=
  ⟨N, V, E, W, T, c, _, _, h1, h2, IV_up h (by omega) hn, 0, by omega, rfl, rfl⟩
theorem mo_3 {jm c : Nat} {am : dkL} {o : Option dkV} {N' : dkNN} {V' : dkVV} {E' : dkEE} {W' : dkWW} {T' : Nat} (h : ∀ (m : dkM) (l : Int64) (k q : Nat), PM N V E W T m → ∃ m', dk_Ev L (jm, 0, am, [], (m, l, .inl (), k, q)) ((m', l, .inl (), k, q), .inl o) ∧ PM N' V' E' W' T' m' ∧ FrS (dk_up m (12, 0, 0) 0 (cI c)) m') : dk_Mo L jm am N V E W T N' V' E' W' T' c o := fun m l k q hM => by
  obtain ⟨m', e, hM', hF⟩ := h m l k q hM
  exact ⟨m', e, hM', FrM_tr (PM_thr' hM).2 hF.1, by rw [hF.2, dk_up_eq]⟩
/-- cancel -/
theorem bo_cancel (x : Int32) (h : IV N E W T n) (hn : n + 1 ≤ 512) : dk_Bo L 57 [(0, vR (0, 0, 0)), (1, vI x), (2, vR (14, 0, 0))] 97 [(0, vR (12, 0, 0)), (1, vI x)] N V E W T n dk_Rb := by
  have hB := IV_BD h
  rcases cI_cases x with hx | ⟨p, hp0, rfl⟩
  · refine bo_refb h hn (cl_ref (c := 1) (by decide) (fun m l k q hq hC => sg_57_0 ⟨rfl, rfl, rfl, rfl, rfl, rfl, trivial⟩ rfl (dk_ex_run (kc_57_4_1 (sg_56_0 ⟨rfl, rfl, rfl, rfl, trivial⟩ rfl ?_) (sg_57_20 trivial rfl dk_ex_some))))) (mo_1 (fun m l k q hM => sg_97_0 ⟨rfl, rfl, rfl, rfl, trivial⟩ rfl ?_))
    · simp only [↓reduceIte, hx, hq]; exact dk_ex_some
    · simp only [↓reduceIte, hx, dk_up_eq, n10]; exact dk_ex_some
  by_cases hp : p < 16
  rotate_left
  · have hp2 : 15 < p := by omega
    refine bo_refb h hn (cl_ref (c := 1) (by decide) (fun m l k q hq hC => sg_57_0 ⟨rfl, rfl, rfl, rfl, rfl, rfl, trivial⟩ rfl (dk_ex_run (kc_57_4_1 (sg_56_0 ⟨rfl, rfl, rfl, rfl, trivial⟩ rfl ?_) (sg_57_20 trivial rfl dk_ex_some))))) (mo_1 (fun m l k q hM => sg_97_0 ⟨rfl, rfl, rfl, rfl, trivial⟩ rfl ?_))
    · simp (disch := omega) only [↓reduceIte, cI_lt, Nat.not_lt_zero, hp, hq]; exact dk_ex_some
    · simp (disch := omega) only [↓reduceIte, cI_lt, Nat.not_lt_zero, hp2, dk_up_eq, n10]; exact dk_ex_some
  have hp2 : ¬ 15 < p := by omega
  have b := h.1 p hp
  have b0 : N 0 p ≤ 1 := b.1
  have b3 : N 3 p ≤ 9 := b.2.2.2.1
  have b4 : N 4 p ≤ 3 := b.2.2.2.2.1
  by_cases h0 : N 0 p = 0
  · refine bo_refb h hn (cl_ref (c := 2) (by decide) (fun m l k q hq hC => sg_57_0 ⟨rfl, rfl, rfl, rfl, rfl, rfl, trivial⟩ rfl (dk_ex_run (kc_57_4_2 (sg_56_0 ⟨rfl, rfl, rfl, rfl, trivial⟩ rfl ?_) (sg_57_23 trivial rfl dk_ex_some))))) (mo_1 (fun m l k q hM => sg_97_0 ⟨rfl, rfl, rfl, rfl, trivial⟩ rfl ?_))
    · have e3 : m (2, p, 0) 3 = cI 0 := by rw [(hC.1 p hp).2.1, h0]
      simp (disch := omega) only [↓reduceIte, cI_lt, cI_nat, le_F, or_self, Nat.not_lt_zero, hp, e3, hq]; exact dk_ex_some
    · have f2 : m (16, 2, 0) p = cI 0 := by rw [(hM.1 p hp).1, h0]
      simp (disch := omega) only [↓reduceIte, cI_lt, cI_nat, le_F, or_self, Nat.not_lt_zero, hp2, f2, dk_up_eq, n20]; exact dk_ex_some
  have h0 : N 0 p = 1 := by omega
  have hc3 : ∀ (m : dkM), PC N V E W T m → m (2, p, 0) 3 = cI 1 := fun m hC => by rw [(hC.1 p hp).2.1, h0]
  have hm2 : ∀ (m : dkM), PM N V E W T m → m (16, 2, 0) p = cI 1 := fun m hM => by rw [(hM.1 p hp).1, h0]
  have e7c : ∀ (m : dkM), PC N V E W T m → m (2, p, 0) 7 = cI (N 3 p) := fun m hC => (hC.1 p hp).2.2.2.2.1
  have e7m : ∀ (m : dkM), PM N V E W T m → m (13, 6, 0) p = cI (N 3 p) := fun m hM => (hM.1 p hp).2.2.2.1
  have k4 : ∀ (m : dkM), PC N V E W T m → m (3, p, 0) 0 = cI (N 4 p) := fun m hC => (hC.1 p hp).2.2.2.2.2.1
  have j4 : ∀ (m : dkM), PM N V E W T m → m (13, 3, 0) p = cI (N 4 p) := fun m hM => (hM.1 p hp).2.2.2.2.1
  by_cases h9 : N 3 p = 9
  · refine bo_refb h hn (cl_ref (c := 3) (by decide) (fun m l k q hq hC => sg_57_0 ⟨rfl, rfl, rfl, rfl, rfl, rfl, trivial⟩ rfl (dk_ex_run (kc_57_4_4 (sg_56_0 ⟨rfl, rfl, rfl, rfl, trivial⟩ rfl ?_) (sg_57_26 trivial rfl dk_ex_some))))) (mo_2 (fun m l k q hM => sg_97_0 ⟨rfl, rfl, rfl, rfl, trivial⟩ rfl ?_))
    · simp (disch := omega) only [↓reduceIte, cI_lt, cI_nat, le_F, or_self, Nat.not_lt_zero, hp, hc3 m hC, n10, e7c m hC, h9, hq]; exact dk_ex_some
    · simp (disch := omega) only [↓reduceIte, cI_lt, cI_nat, le_F, or_self, Nat.not_lt_zero, hp2, hm2 m hM, dk_up_eq, dk_up_k, n10, e7m m hM, h9]; exact dk_ex_some
  have hhc : ∀ (m : dkM), PC N V E W T m → ∀ r, r < 16 → m (3, r, 0) 2 = cJ (N 6 r) ∧ N 6 r ≤ 16 := fun m hC r hr => ⟨(hC.1 r hr).2.2.2.2.2.2.2.1, (h.1 r hr).2.2.2.2.2.2.1⟩
  have hhm : ∀ (m : dkM), PM N V E W T m → ∀ r, r < 16 → m (13, 5, 0) r = cJ (N 6 r) ∧ N 6 r ≤ 16 := fun m hM r hr => ⟨(hM.1 r hr).2.2.2.2.2.2.1, (h.1 r hr).2.2.2.2.2.2.1⟩
  have mod : ∀ (m : dkM) (l : Int64) (k q : Nat) (b : Nat) (y : dkY), PM N V E W T m → (b = 1 ∧ (∃ r, 0 ≤ r ∧ r < 16 ∧ N 6 r = p + 1)) ∨ (b = 0 ∧ ∀ r, 0 ≤ r → r < 16 → N 6 r ≠ p + 1) → dk_Ev L (97, 36, [(3, vI (cI 16)), (2, vI (cI b)), (0, vR (12, 0, 0)), (1, vI (cI p))], [], (dk_up m (12, 0, 0) 0 (cI 0), l, .inl (), k, q)) y → dk_Ev L (97, 0, [(0, vR (12, 0, 0)), (1, vI (cI p))], [], (m, l, .inl (), k, q)) y := fun m l k q b y hM hb hk => by
    refine sg_97_0 ⟨rfl, rfl, rfl, rfl, trivial⟩ rfl ?_
    simp (disch := omega) only [↓reduceIte, cI_lt, cI_nat, cI_inj, le_F, or_self, Nat.not_lt_zero, hp2, hm2 m hM, dk_up_eq, dk_up_k, Nat.reduceEqDiff, e7m m hM, h9]
    refine dk_ex_run (md_97_loop (L := L) (N := N) (b := b) hp (hhm _ (PM_thr (z := cI 0) hM)) 16 0 0 rfl ?_ hk)
    rcases hb with ⟨h1, h2⟩ | ⟨h1, h2⟩
    · exact Or.inl ⟨h1, by omega, Or.inr h2⟩
    · exact Or.inr ⟨h1, rfl, h2⟩
  have dec : (∃ r, 0 ≤ r ∧ r < 16 ∧ N 6 r = p + 1) ∨ (∀ r, 0 ≤ r → r < 16 → N 6 r ≠ p + 1) := by
    by_cases hh : ∃ r, 0 ≤ r ∧ r < 16 ∧ N 6 r = p + 1
    · exact Or.inl hh
    · exact Or.inr (fun r h1 h2 h3 => hh ⟨r, h1, h2, h3⟩)
  have fls : (∀ (m : dkM) (l : Int64) (k q : Nat), PC N V E W T m → dk_Ev L (56, 0, [(0, vR (0, 0, 0)), (1, vI (cI p))], [], (m, l, .inl (), k, q)) ((m, l, .inl (), k, q), .inl (some (vI (cI 0))))) → (∀ (m : dkM) (l : Int64) (k q : Nat), PM N V E W T m → dk_Ev L (97, 0, [(0, vR (12, 0, 0)), (1, vI (cI p))], [], (m, l, .inl (), k, q)) ((dk_up m (12, 0, 0) 0 (cI 0), l, .inl (), k, q), .inl (some (vI (cI 0))))) → dk_Bo L 57 [(0, vR (0, 0, 0)), (1, vI (cI p)), (2, vR (14, 0, 0))] 97 [(0, vR (12, 0, 0)), (1, vI (cI p))] N V E W T n dk_Rb := fun e1 e2 => by
    refine ⟨N, V, E, W, T, 0, 0, _, fun m l k q hq hC => ⟨m, 0, q, sg_57_0 ⟨rfl, rfl, rfl, rfl, rfl, rfl, trivial⟩ rfl (dk_ex_run (kv_57_4 (e1 m l k q hC) (sg_57_7 trivial rfl ?_))), hC, FrC_refl, by omega, fun _ => rfl⟩, mo_1 e2, IV_up h (by omega) hn, 0, by omega, rfl, rfl⟩
    simp only [↓reduceIte]
    exact dk_ex_some
  by_cases h4 : N 4 p = 1
  rotate_left
  · refine fls (fun m l k q hC => sg_56_0 ⟨rfl, rfl, rfl, rfl, trivial⟩ rfl ?_) (fun m l k q hM => ?_)
    · simp (disch := omega) only [↓reduceIte, cI_lt, cI_nat, cI_inj, le_F, or_self, Nat.not_lt_zero, hp, hc3 m hC, Nat.reduceEqDiff, e7c m hC, h9, k4 m hC, h4]
      exact dk_ex_some
    · rcases dec with hd | hd
      · refine mod m l k q 1 _ hM (Or.inl ⟨rfl, hd⟩) (sg_97_36 ⟨rfl, rfl, rfl, rfl, rfl, rfl, rfl, rfl, trivial⟩ rfl ?_)
        simp (disch := omega) only [↓reduceIte, cI_lt, cI_nat, cI_inj, le_F, or_self, Nat.not_lt_zero, Nat.lt_irrefl, j4 _ (PM_thr (z := cI 0) hM), h4]
        exact dk_ex_some
      · refine mod m l k q 0 _ hM (Or.inr ⟨rfl, hd⟩) (sg_97_36 ⟨rfl, rfl, rfl, rfl, rfl, rfl, rfl, rfl, trivial⟩ rfl ?_)
        simp (disch := omega) only [↓reduceIte, cI_lt, cI_nat, cI_inj, le_F, or_self, Nat.not_lt_zero, Nat.lt_irrefl, j4 _ (PM_thr (z := cI 0) hM), h4]
        exact dk_ex_some
  rcases dec with hd | hd
  · refine fls (fun m l k q hC => sg_56_0 ⟨rfl, rfl, rfl, rfl, trivial⟩ rfl ?_) (fun m l k q hM => ?_)
    · simp (disch := omega) only [↓reduceIte, cI_lt, cI_nat, cI_inj, le_F, or_self, Nat.not_lt_zero, hp, hc3 m hC, Nat.reduceEqDiff, e7c m hC, h9, k4 m hC, h4]
      refine dk_ex_run (kv_56_38 (sg_52_0 ⟨rfl, rfl, rfl, rfl, trivial⟩ rfl (dk_ex_run (cl_52_loop (L := L) (N := N) (b := 1) hp (hC.1 p hp).1 (hhc m hC) 16 0 rfl (Or.inl ⟨rfl, hd⟩)))) (sg_56_41 ⟨rfl, rfl, rfl, rfl, trivial⟩ rfl ?_))
      simp only [↓reduceIte, n10]
      exact dk_ex_some
    · refine mod m l k q 1 _ hM (Or.inl ⟨rfl, hd⟩) (sg_97_36 ⟨rfl, rfl, rfl, rfl, rfl, rfl, rfl, rfl, trivial⟩ rfl ?_)
      simp (disch := omega) only [↓reduceIte, cI_lt, cI_nat, cI_inj, le_F, or_self, Nat.not_lt_zero, Nat.lt_irrefl, j4 _ (PM_thr (z := cI 0) hM), h4, Nat.reduceEqDiff]
      exact dk_ex_some
  · refine ⟨nE N p, V, dk_rm E p, W, T, 0, 1, some (vI (cI 1)), fun m l k q hq hC => ?_, mo_3 (fun m l k q hM => ?_), IV_end hp h (by omega) hn, 1, by omega, rfl, rfl⟩
    · obtain ⟨m', e, hC', hF⟩ := cl_end (L := L) (l := l) (k := k) (q := q) hp hC hB
      refine ⟨m', 1, q, sg_57_0 ⟨rfl, rfl, rfl, rfl, rfl, rfl, trivial⟩ rfl (dk_ex_run (kv_57_4 (h' := (m', l, .inl (), k, q)) (w := cI 1) (sg_56_0 ⟨rfl, rfl, rfl, rfl, trivial⟩ rfl ?_) (sg_57_7 trivial rfl ?_))), hC', hF, by omega, fun _ => rfl⟩
      · simp (disch := omega) only [↓reduceIte, cI_lt, cI_nat, cI_inj, le_F, or_self, Nat.not_lt_zero, hp, hc3 m hC, Nat.reduceEqDiff, e7c m hC, h9, k4 m hC, h4]
        refine dk_ex_run (kv_56_38 (sg_52_0 ⟨rfl, rfl, rfl, rfl, trivial⟩ rfl (dk_ex_run (cl_52_loop (L := L) (N := N) (b := 0) hp (hC.1 p hp).1 (hhc m hC) 16 0 rfl (Or.inr ⟨rfl, hd⟩)))) (sg_56_41 ⟨rfl, rfl, rfl, rfl, trivial⟩ rfl ?_))
        simp only [↓reduceIte]
        exact dk_ex_run (kv_56_48 e (sg_56_51 trivial rfl dk_ex_some))
      · simp only [↓reduceIte, n10]
        exact dk_ex_some
    · obtain ⟨m', e, hM', hF⟩ := md_end (L := L) (l := l) (k := k) (q := q) hp (PM_thr (z := cI 0) hM) hB
      refine ⟨m', mod m l k q 0 _ hM (Or.inr ⟨rfl, hd⟩) (sg_97_36 ⟨rfl, rfl, rfl, rfl, rfl, rfl, rfl, rfl, trivial⟩ rfl ?_), hM', hF⟩
      simp (disch := omega) only [↓reduceIte, cI_lt, cI_nat, cI_inj, le_F, or_self, Nat.not_lt_zero, Nat.lt_irrefl, j4 _ (PM_thr (z := cI 0) hM), h4]
      exact dk_ex_run (kv_97_86 e (sg_97_89 trivial rfl dk_ex_some))
end
