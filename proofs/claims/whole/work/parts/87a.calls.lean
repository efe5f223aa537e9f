/-! the calls of the law on both sides -/
theorem cI_cases (x : Int32) : x < cI 0 ∨ ∃ i, i < 2147483648 ∧ x = cI i := by
  by_cases h : x < cI 0
  · exact Or.inl h
  · refine Or.inr ⟨x.toInt.toNat, ?_, ?_⟩
    · have := x.toInt_lt
      omega
    · have h0 : ¬ x.toInt < (cI 0).toInt := fun c => h (Int32.lt_iff_toInt_lt.2 c)
      rw [cI_toInt (by omega)] at h0
      have h2 := x.toInt_lt
      apply Int32.toInt_inj.1
      rw [cI_toInt (by omega)]
      omega
theorem cI_neg_ne {x : Int32} (h : x < cI 0) {j : Nat} (hj : j < 2147483648) : (x = cI j) = False := eq_false (fun e => by
  rw [e, cI_lt (by omega) (by omega)] at h; omega)
theorem cI_neg_gt {x : Int32} (h : x < cI 0) {j : Nat} (hj : j < 2147483648) : (cI j < x) = False := eq_false (fun e => by
  rw [Int32.lt_iff_toInt_lt, cI_toInt (by omega)] at e
  rw [Int32.lt_iff_toInt_lt, cI_toInt (by omega)] at h
  omega)
theorem cI_pred_lt {a i : Nat} (ha : a < 2147483648) (hi : i < 2147483648) : (cI a - cI 1 < cI i) = (a ≤ i) := by
  cases a with
  | zero =>
    have e : cI 0 - cI 1 = cJ 0 := by decide
    rw [e]
    apply propext
    refine ⟨fun _ => by omega, fun _ => ?_⟩
    rw [Int32.lt_iff_toInt_lt, cI_toInt hi]
    have : (cJ 0).toInt = -1 := by decide
    omega
  | succ a =>
    rw [cI_sub (by omega), cI_lt (by omega) hi]
    apply propext
    omega
def dk_Cl (L : Nat) (jc : Nat) (ac : dkL) (N : dkNN) (V : dkVV) (E : dkEE) (W : dkWW) (T : Nat) (N' : dkNN) (V' : dkVV) (E' : dkEE) (W' : dkWW) (T' : Nat) (c : Nat) (b : Int64) : Prop :=
  ∀ (m : dkM) (l : Int64) (k q : Nat), q < 600 → PC N V E W T m → ∃ m' l' q', dk_Ev L (jc, 0, ac, [], (m, l, .inl (), k, q)) ((m', l', .inl (), k, q'), .inl (some (vI (cI c)))) ∧ PC N' V' E' W' T' m' ∧ FrC m m' ∧ q' ≤ q + 1 ∧ (cI c = cI 0 → l' = b)
def dk_Mo (L : Nat) (jm : Nat) (am : dkL) (N : dkNN) (V : dkVV) (E : dkEE) (W : dkWW) (T : Nat) (N' : dkNN) (V' : dkVV) (E' : dkEE) (W' : dkWW) (T' : Nat) (c : Nat) (o : Option dkV) : Prop :=
  ∀ (m : dkM) (l : Int64) (k q : Nat), PM N V E W T m → ∃ m', dk_Ev L (jm, 0, am, [], (m, l, .inl (), k, q)) ((m', l, .inl (), k, q), .inl o) ∧ PM N' V' E' W' T' m' ∧ FrM m m' ∧ m' (12, 0, 0) 0 = cI c
/-- one call, in both programs, from one desk to the other -/
def dk_Bo (L : Nat) (jc : Nat) (ac : dkL) (jm : Nat) (am : dkL) (N : dkNN) (V : dkVV) (E : dkEE) (W : dkWW) (T n : Nat) (R : Int64 → Option dkV → Prop) : Prop :=
  ∃ N' V' E' W' T' c b o, dk_Cl L jc ac N V E W T N' V' E' W' T' c b ∧ dk_Mo L jm am N V E W T N' V' E' W' T' c o ∧ IV N' E' W' T' (n + 1) ∧ R b o
def dk_Ri (b : Int64) (o : Option dkV) : Prop := ∃ x : Int32, o = some (vI x) ∧ b = x.toInt64
section
variable {L : Nat} {N : dkNN} {V : dkVV} {E : dkEE} {W : dkWW} {T n : Nat}
theorem cl_ref {jc c : Nat} {ac : dkL} {b : Int64} (hc : ¬ cI c = cI 0) (h : ∀ (m : dkM) (l : Int64) (k q : Nat), q < 600 → PC N V E W T m → dk_Ev L (jc, 0, ac, [], (m, l, .inl (), k, q)) ((m, l, .inl (), k, q + 1), .inl (some (vI (cI c))))) : dk_Cl L jc ac N V E W T N V E W T c b :=
  fun m l k q hq hC => ⟨m, l, q + 1, h m l k q hq hC, hC, FrC_refl, Nat.le_refl _, fun h => absurd h hc⟩
theorem mo_1 {jm c : Nat} {am : dkL} {o : Option dkV} (h : ∀ (m : dkM) (l : Int64) (k q : Nat), PM N V E W T m → dk_Ev L (jm, 0, am, [], (m, l, .inl (), k, q)) ((dk_up m (12, 0, 0) 0 (cI c), l, .inl (), k, q), .inl o)) : dk_Mo L jm am N V E W T N V E W T c o :=
  fun m l k q hM => ⟨_, h m l k q hM, PM_thr hM, FrM_up ⟨Nat.le_of_ble_eq_true rfl, Nat.ne_of_beq_eq_false rfl⟩ FrM_refl, dk_up_eq⟩
theorem mo_2 {jm c : Nat} {am : dkL} {o : Option dkV} (h : ∀ (m : dkM) (l : Int64) (k q : Nat), PM N V E W T m → dk_Ev L (jm, 0, am, [], (m, l, .inl (), k, q)) ((dk_up (dk_up m (12, 0, 0) 0 (cI 0)) (12, 0, 0) 0 (cI c), l, .inl (), k, q), .inl o)) : dk_Mo L jm am N V E W T N V E W T c o :=
  fun m l k q hM => ⟨_, h m l k q hM, PM_thr (PM_thr hM), FrM_up ⟨Nat.le_of_ble_eq_true rfl, Nat.ne_of_beq_eq_false rfl⟩ (FrM_up ⟨Nat.le_of_ble_eq_true rfl, Nat.ne_of_beq_eq_false rfl⟩ FrM_refl), dk_up_eq⟩
theorem bo_ref {jc jm c : Nat} {ac am : dkL} (h : IV N E W T n) (hn : n + 1 ≤ 512) (h1 : dk_Cl L jc ac N V E W T N V E W T c (cI 0).toInt64) (h2 : dk_Mo L jm am N V E W T N V E W T c (some (vI (cI 0)))) : dk_Bo L jc ac jm am N V E W T n dk_Ri :=
  ⟨N, V, E, W, T, c, _, _, h1, h2, IV_up h (by omega) hn, cI 0, rfl, rfl⟩
/-- offer -/
theorem bo_offer (x : Int32) (h : IV N E W T n) (hn : n + 1 ≤ 512) : dk_Bo L 28 [(0, vR (0, 0, 0)), (1, vI x), (2, vR (14, 0, 0))] 81 [(0, vR (12, 0, 0)), (1, vI x)] N V E W T n dk_Ri := by
  rcases cI_range x 15 (by omega) with hx | ⟨hx, hx1, hx2⟩ | ⟨p, hp, rfl⟩
  · exact bo_ref h hn (cl_ref (c := 1) (by decide) (fun m l k q hq hC => cl_offer_1 (Or.inl hx) hq)) (mo_1 (fun m l k q hM => md_offer_1 (Or.inl hx)))
  · exact bo_ref h hn (cl_ref (c := 1) (by decide) (fun m l k q hq hC => cl_offer_1 (Or.inr hx1) hq)) (mo_1 (fun m l k q hM => md_offer_1 (Or.inr ⟨hx, hx2⟩)))
  have b := h.1 p hp
  have b0 : N 0 p ≤ 1 := b.1
  have b3 : N 3 p ≤ 9 := b.2.2.2.1
  have hB := IV_BD h
  have iv := h.2.2.1 p hp
  by_cases h0 : N 0 p = 0
  · exact bo_ref h hn (cl_ref (c := 2) (by decide) (fun m l k q hq hC => cl_offer_2 hp (by rw [(hC.1 p hp).2.1, h0]) hq)) (mo_1 (fun m l k q hM => md_offer_2 hp (by rw [(hM.1 p hp).1, h0])))
  have h0 : N 0 p = 1 := by omega
  by_cases h9 : N 3 p = 9
  · have h6 : N 6 p = 0 := iv.2.2.1 (by have := iv.2.1 h9; omega)
    refine ⟨dq_off N p, V, E, W, T, 0, (cI (N 5 p + 1)).toInt64, some (vI (cI (N 5 p + 1))), fun m l k q hq hC => ?_, fun m l k q hM => md_offer hp hM hB h0 h9 h6, ?_, cI (N 5 p + 1), rfl, rfl⟩
    · obtain ⟨m', e, hC', hF⟩ := cl_offer (L := L) (l := l) (k := k) (q := q) hp hC hB h0 h9
      exact ⟨m', _, q, e, hC', hF, by omega, fun _ => rfl⟩
    · rcases dk_nx_spec (N := N) (p := p) (N 1 p) 0 with e | ⟨j, e, h1, h2, h3⟩
      · have := IV_offer (x3 := 7) (x8 := N 8 p) hp h h0 h9 (Or.inl ⟨rfl, rfl⟩) hn
        rw [dq_off, if_pos e]
        have e8 : nU (nU (nU (nU N 5 p (N 5 p + 1)) 4 p 1) 6 p 0) 7 p 0 8 p = N 8 p := rfl
        rw [← e8, nU_self] at this
        exact this
      · have := IV_offer (x3 := 0) (x8 := j) hp h h0 h9 (Or.inr ⟨rfl, by omega, h3⟩) hn
        rw [dq_off, if_neg (by omega), e, Nat.add_sub_cancel]
        exact this
  · exact bo_ref h hn (cl_ref (c := 3) (by decide) (fun m l k q hq hC => cl_offer_3 (z := N 3 p) hp (by rw [(hC.1 p hp).2.1, h0]) (hC.1 p hp).2.2.2.2.1 (by omega) hq)) (mo_2 (fun m l k q hM => md_offer_3 (z := N 3 p) hp (by rw [(hM.1 p hp).1, h0]) (hM.1 p hp).2.2.2.1 (by omega)))
/-- timeout -/
theorem bo_tmo (x t : Int32) (h : IV N E W T n) (hn : n + 1 ≤ 512) : dk_Bo L 23 [(0, vR (0, 0, 0)), (1, vI x), (2, vI t), (3, vR (14, 0, 0))] 79 [(0, vR (12, 0, 0)), (1, vI x), (2, vI t)] N V E W T n dk_Ri := by
  rcases cI_cases x with hx | ⟨p, hp0, rfl⟩
  · refine bo_ref h hn (cl_ref (c := 1) (by decide) (fun m l k q hq hC => sg_23_0 ⟨rfl, rfl, rfl, rfl, rfl, rfl, rfl, rfl, trivial⟩ rfl ?_)) (mo_1 (fun m l k q hM => sg_79_0 ⟨rfl, rfl, rfl, rfl, rfl, rfl, trivial⟩ rfl ?_))
    · simp only [↓reduceIte, hx, hq]; exact dk_ex_some
    · simp only [↓reduceIte, hx, dk_up_eq, n10]; exact dk_ex_some
  by_cases hp : p < 16
  rotate_left
  · have hp2 : 15 < p := by omega
    refine bo_ref h hn (cl_ref (c := 1) (by decide) (fun m l k q hq hC => sg_23_0 ⟨rfl, rfl, rfl, rfl, rfl, rfl, rfl, rfl, trivial⟩ rfl ?_)) (mo_1 (fun m l k q hM => sg_79_0 ⟨rfl, rfl, rfl, rfl, rfl, rfl, trivial⟩ rfl ?_))
    · simp (disch := omega) only [↓reduceIte, cI_lt, Nat.not_lt_zero, hp, hq]; exact dk_ex_some
    · simp (disch := omega) only [↓reduceIte, cI_lt, Nat.not_lt_zero, hp2, dk_up_eq, n10]; exact dk_ex_some
  have hp2 : ¬ 15 < p := by omega
  have b := h.1 p hp
  have b0 : N 0 p ≤ 1 := b.1
  have b3 : N 3 p ≤ 9 := b.2.2.2.1
  by_cases h0 : N 0 p = 0
  · refine bo_ref h hn (cl_ref (c := 2) (by decide) (fun m l k q hq hC => sg_23_0 ⟨rfl, rfl, rfl, rfl, rfl, rfl, rfl, rfl, trivial⟩ rfl ?_)) (mo_1 (fun m l k q hM => sg_79_0 ⟨rfl, rfl, rfl, rfl, rfl, rfl, trivial⟩ rfl ?_))
    · have e3 : m (2, p, 0) 3 = cI 0 := by rw [(hC.1 p hp).2.1, h0]
      simp (disch := omega) only [↓reduceIte, cI_lt, cI_nat, le_F, or_self, Nat.not_lt_zero, hp, e3, hq]; exact dk_ex_some
    · have f2 : m (16, 2, 0) p = cI 0 := by rw [(hM.1 p hp).1, h0]
      simp (disch := omega) only [↓reduceIte, cI_lt, cI_nat, le_F, or_self, Nat.not_lt_zero, hp2, f2, dk_up_eq, n20]; exact dk_ex_some
  have h0 : N 0 p = 1 := by omega
  have hc3 : ∀ (m : dkM), PC N V E W T m → m (2, p, 0) 3 = cI 1 := fun m hC => by rw [(hC.1 p hp).2.1, h0]
  have hm2 : ∀ (m : dkM), PM N V E W T m → m (16, 2, 0) p = cI 1 := fun m hM => by rw [(hM.1 p hp).1, h0]
  rcases cI_cases t with ht | ⟨z, hz0, rfl⟩
  · refine bo_ref h hn (cl_ref (c := 3) (by decide) (fun m l k q hq hC => sg_23_0 ⟨rfl, rfl, rfl, rfl, rfl, rfl, rfl, rfl, trivial⟩ rfl ?_)) (mo_2 (fun m l k q hM => sg_79_0 ⟨rfl, rfl, rfl, rfl, rfl, rfl, trivial⟩ rfl ?_))
    · simp (disch := omega) only [↓reduceIte, cI_lt, cI_nat, le_F, or_self, Nat.not_lt_zero, hp, hc3 m hC, n10, ht, hq]; exact dk_ex_some
    · simp (disch := omega) only [↓reduceIte, cI_lt, cI_nat, le_F, or_self, Nat.not_lt_zero, hp2, hm2 m hM, dk_up_eq, n10, ht]; exact dk_ex_some
  by_cases hz : z ≤ 1000
  rotate_left
  · have hz2 : 1000 < z := by omega
    refine bo_ref h hn (cl_ref (c := 3) (by decide) (fun m l k q hq hC => sg_23_0 ⟨rfl, rfl, rfl, rfl, rfl, rfl, rfl, rfl, trivial⟩ rfl ?_)) (mo_2 (fun m l k q hM => sg_79_0 ⟨rfl, rfl, rfl, rfl, rfl, rfl, trivial⟩ rfl ?_))
    · simp (disch := omega) only [↓reduceIte, cI_lt, cI_nat, le_F, or_self, Nat.not_lt_zero, hp, hc3 m hC, n10, hz2, hq]; exact dk_ex_some
    · simp (disch := omega) only [↓reduceIte, cI_lt, cI_nat, le_F, or_self, Nat.not_lt_zero, hp2, hm2 m hM, dk_up_eq, n10, hz2]; exact dk_ex_some
  have hz2 : ¬ 1000 < z := by omega
  by_cases h9 : N 3 p = 9
  · refine ⟨nU N 2 p z, V, E, W, T, 0, (cI (N 2 p)).toInt64, some (vI (cI (N 2 p))), fun m l k q hq hC => ⟨dk_up m (2, p, 0) 5 (cI z), (cI (N 2 p)).toInt64, q, sg_23_0 ⟨rfl, rfl, rfl, rfl, rfl, rfl, rfl, rfl, trivial⟩ rfl ?_, PC_tmo hC, FrC_up (Nat.le_of_ble_eq_true rfl) FrC_refl, by omega, fun _ => rfl⟩, fun m l k q hM => ⟨dk_up (dk_up m (12, 0, 0) 0 (cI 0)) (13, 15, 0) p (cI z), sg_79_0 ⟨rfl, rfl, rfl, rfl, rfl, rfl, trivial⟩ rfl ?_, PM_tmo (PM_thr hM), FrM_up ⟨Nat.le_of_ble_eq_true rfl, Nat.ne_of_beq_eq_false rfl⟩ (FrM_up ⟨Nat.le_of_ble_eq_true rfl, Nat.ne_of_beq_eq_false rfl⟩ FrM_refl), by simp [dk_up]⟩, IV_tmo hz h hn, _, rfl, rfl⟩
    · have e7 : m (2, p, 0) 7 = cI 9 := by rw [(hC.1 p hp).2.2.2.2.1, h9]
      have e5 : m (2, p, 0) 5 = cI (N 2 p) := (hC.1 p hp).2.2.2.1
      simp (disch := omega) only [↓reduceIte, cI_lt, cI_nat, le_F, or_self, Nat.not_lt_zero, hp, hc3 m hC, n10, hz2, e7, e5]; exact dk_ex_some
    · have e7 : m (13, 6, 0) p = cI 9 := by rw [(hM.1 p hp).2.2.2.1, h9]
      have e5 : m (13, 15, 0) p = cI (N 2 p) := (hM.1 p hp).2.2.1
      simp (disch := omega) only [↓reduceIte, cI_lt, cI_nat, le_F, or_self, Nat.not_lt_zero, hp2, hm2 m hM, dk_up_eq, dk_up_k, n10, hz2, e7, e5]; exact dk_ex_some
  · refine bo_ref h hn (cl_ref (c := 4) (by decide) (fun m l k q hq hC => sg_23_0 ⟨rfl, rfl, rfl, rfl, rfl, rfl, rfl, rfl, trivial⟩ rfl ?_)) (mo_2 (fun m l k q hM => sg_79_0 ⟨rfl, rfl, rfl, rfl, rfl, rfl, trivial⟩ rfl ?_))
    · have e7 : m (2, p, 0) 7 = cI (N 3 p) := (hC.1 p hp).2.2.2.2.1
      simp (disch := omega) only [↓reduceIte, cI_lt, cI_nat, cI_inj, le_F, or_self, Nat.not_lt_zero, hp, hc3 m hC, Nat.reduceEqDiff, hz2, e7, h9, hq]; exact dk_ex_some
    · have e7 : m (13, 6, 0) p = cI (N 3 p) := (hM.1 p hp).2.2.2.1
      simp (disch := omega) only [↓reduceIte, cI_lt, cI_nat, cI_inj, le_F, or_self, Nat.not_lt_zero, hp2, hm2 m hM, dk_up_eq, dk_up_k, Nat.reduceEqDiff, hz2, e7, h9]; exact dk_ex_some
end
