/-! run on both sides -/
theorem cI_mask (z : Int32) : ∃ v, v < 2147483648 ∧ z &&& cI 2147483647 = cI v := by
  rcases cI_cases (z &&& cI 2147483647) with h | h
  · exfalso
    rw [Int32.lt_iff_toInt_lt] at h
    have e0 : (cI 0).toInt = 0 := by decide
    rw [e0] at h
    have e1 : (z &&& cI 2147483647).toInt = (z.toBitVec &&& (cI 2147483647).toBitVec).toInt := rfl
    rw [e1, BitVec.toInt_eq_msb_cond, BitVec.msb_and] at h
    have e2 : (cI 2147483647).toBitVec.msb = false := by decide
    rw [e2] at h
    simp at h
    omega
  · exact h
section
variable {L : Nat} {N : dkNN} {V : dkVV} {E : dkEE} {W : dkWW} {T n : Nat}
theorem li_mono {k p : Nat} : ∀ (j i : Nat), (dk_li N i)[k]? = some p → (dk_li N (i + j))[k]? = some p
  | 0, _, h => h
  | j + 1, i, h => by
    have hlt := (List.getElem?_eq_some_iff.1 h).1
    have h' : (dk_li N (i + 1))[k]? = some p := by
      have : dk_li N (i + 1) = dk_li N i ++ (if N 0 i = 1 then [i] else []) := by
        simp only [dk_li, List.range_succ, List.filter_append]
        congr 1
        by_cases e : N 0 i = 1 <;> simp [e]
      rw [this, List.getElem?_append_left hlt]
      exact h
    have := li_mono j (i + 1) h'
    rwa [Nat.add_assoc, Nat.add_comm 1 j] at this
theorem lv_mem {k p : Nat} (h : (dk_lv N)[k]? = some p) : p < 16 ∧ N 0 p = 1 := by
  have := List.mem_of_getElem? h
  simp [dk_lv] at this
  exact this
theorem lv_eq {N' : dkNN} (h : ∀ i, N' 0 i = N 0 i) : dk_lv N' = dk_lv N := by
  simp [dk_lv, h]
/-- the reference finds the live one -/
theorem md_102_112 {idx p : Nat} {m : dkM} {l : Int64} {k q : Nat} {a2 a3 a4 a5 a6 : Int32} {y : dkY} (h0 : ∀ p, p < 16 → m (16, 2, 0) p = cI (N 0 p) ∧ N 0 p ≤ 1) (hp : (dk_lv N)[idx]? = some p) (hi16 : idx < 16) (hk : dk_Ev L (102, 156, [(0, vR (12, 0, 0)), (2, vI a2), (3, vI a3), (4, vI a4), (5, vI a5), (6, vI a6), (7, vI (cI 0)), (8, vI (cI p))], [vI (cI p), vR (12, 0, 0)], (m, l, .inl (), k, q)) y) : ∀ (j r t : Nat), r + j = 16 → (dk_li N r).length + t = idx → dk_Ev L (102, 112, [(8, vI (cI r)), (7, vI (cI t)), (0, vR (12, 0, 0)), (2, vI a2), (3, vI a3), (4, vI a4), (5, vI a5), (6, vI a6)], [], (m, l, .inl (), k, q)) y := by
  intro j
  induction j with
  | zero =>
    intro r t hr ht
    have hr : r = 16 := by omega
    subst hr
    have := (List.getElem?_eq_some_iff.1 hp).1
    have e : (dk_lv N).length = (dk_li N 16).length := rfl
    omega
  | succ j ih =>
    intro r t hr ht
    have hr16 : r < 16 := by omega
    obtain ⟨l0, b0⟩ := h0 r hr16
    refine sg_102_112 ⟨rfl, rfl, rfl, rfl, rfl, rfl, rfl, rfl, rfl, rfl, rfl, rfl, rfl, rfl, rfl, rfl, trivial⟩ rfl ?_
    by_cases a0 : N 0 r = 0
    · have e := ih (r + 1) t (by omega) (by rw [dk_li_0 a0]; exact ht)
      simp (disch := omega) only [↓reduceIte, cI_lt, cI_nat, cI_inj, cI_add, cI_sub, Nat.sub_zero, le_F, or_self, Nat.not_lt_zero, l0, a0]
      exact dk_ex_run e
    · have a1 : N 0 r = 1 := by omega
      by_cases ht0 : 0 < t
      · have e := ih (r + 1) (t - 1) (by omega) (by rw [dk_li_1 a1, List.length_append, List.length_singleton]; omega)
        simp (disch := omega) only [↓reduceIte, cI_lt, cI_nat, cI_inj, cI_add, cI_sub, le_F, or_self, Nat.not_lt_zero, l0, a0, ht0]
        exact dk_ex_run e
      · have ht0' : t = 0 := by omega
        subst ht0'
        have hx : (dk_li N (r + 1))[idx]? = some r := by
          rw [dk_li_1 a1, ← ht]
          simp
        have hx := li_mono j (r + 1) hx
        have e16 : r + 1 + j = 16 := by omega
        rw [e16] at hx
        have hpr : r = p := by
          have h1 : (dk_lv N)[idx]? = some r := hx
          rw [hp] at h1
          exact (Option.some.inj h1).symm
        subst hpr
        simp (disch := omega) only [↓reduceIte, cI_lt, cI_nat, cI_inj, le_F, or_self, Nat.not_lt_zero, l0, a0]
        exact dk_ex_run hk
/-- the steps of a run -/
theorem run_all {s : Nat} (hs : s ≤ 5000) : ∀ (j i : Nat) (x : Int32) (N : dkNN) (V : dkVV) (E : dkEE) (W : dkWW), i + j = s → IV N E W T n → (dk_lv N).length ≠ 0 → ∃ N' V' E' W' d, IV N' E' W' T n ∧
    (∀ (e0 : Nat) (m : dkM) (l : Int64) (k q : Nat), PC N V E W T m → ∃ m', dk_Ev L (69, 50, [(5, vI (cI i)), (4, vI (cI e0)), (3, vI x), (0, vR (0, 0, 0)), (2, vI (cI s))], [], (m, l, .inl (), k, q)) ((m', l, .inl (), k, q), .inl (some (vI (cI (e0 + d))))) ∧ PC N' V' E' W' T m' ∧ FrC m m') ∧
    (∀ (e0 : Nat) (m : dkM) (l : Int64) (k q : Nat), PM N V E W T m → ∃ m', dk_Ev L (102, 80, [(6, vI (cI i)), (5, vI (cI e0)), (4, vI x), (0, vR (12, 0, 0)), (2, vI (cI s)), (3, vI (cI (dk_lv N).length))], [], (m, l, .inl (), k, q)) ((m', l, .inl (), k, q), .inl (some (vI (cI (e0 + d))))) ∧ PM N' V' E' W' T m' ∧ FrS m m') := by
  intro j
  induction j with
  | zero =>
    intro i x N V E W hi h hl
    have hi : i = s := by omega
    subst hi
    refine ⟨N, V, E, W, 0, h, fun e0 m l k q hC => ⟨m, sg_69_50 ⟨rfl, rfl, rfl, rfl, rfl, rfl, rfl, rfl, rfl, rfl, trivial⟩ rfl ?_, hC, FrC_refl⟩, fun e0 m l k q hM => ⟨m, sg_102_80 ⟨rfl, rfl, rfl, rfl, rfl, rfl, rfl, rfl, rfl, rfl, rfl, rfl, trivial⟩ rfl ?_, hM, FrS_refl⟩⟩
    · simp (disch := omega) only [↓reduceIte, cI_lt, Nat.lt_irrefl]; exact dk_ex_some
    · simp (disch := omega) only [↓reduceIte, cI_lt, Nat.lt_irrefl]; exact dk_ex_some
  | succ j ih =>
    intro i x N V E W hi h hl
    have his : i < s := by omega
    obtain ⟨v, hv, ev⟩ := cI_mask (cI 1103515245 * x + cI 12345)
    have hll : (dk_lv N).length ≤ 16 := dk_li_le 16
    have hil : v / 65536 % (dk_lv N).length < (dk_lv N).length := Nat.mod_lt _ (by omega)
    have hp : (dk_lv N)[v / 65536 % (dk_lv N).length]? = some ((dk_lv N)[v / 65536 % (dk_lv N).length]) := List.getElem?_eq_getElem hil
    generalize (dk_lv N)[v / 65536 % (dk_lv N).length] = p at hp
    obtain ⟨hp16, hp0⟩ := lv_mem hp
    obtain ⟨N1, V1, E1, W1, ⟨sc, sm⟩, h1, hlv⟩ := step_all (L := L) (V := V) hp16 h
    have hlv1 := lv_eq hlv
    obtain ⟨N', V', E', W', d, h', rc, rm⟩ := ih (i + 1) (cI v) N1 V1 E1 W1 (by omega) h1 (by rw [hlv1]; exact hl)
    have ha4 : dk_an N1 p ≤ 4 := by
      unfold dk_an
      split
      · omega
      · split
        · split <;> omega
        · split <;> omega
    have hmod : v / 65536 - v / 65536 / (dk_lv N).length * (dk_lv N).length = v / 65536 % (dk_lv N).length := by
      have := Nat.mod_add_div (v / 65536) (dk_lv N).length
      rw [Nat.mul_comm] at this
      omega
    have hleb : v / 65536 / (dk_lv N).length * (dk_lv N).length ≤ v / 65536 := Nat.div_mul_le_self _ _
    have hl0 : ¬ (dk_lv N).length = 0 := hl
    by_cases hw : dk_an N1 p = 2 ∨ dk_an N1 p = 3
    · refine ⟨N', V', E', W', 1 + d, h', fun e0 m l k q hC => ?_, fun e0 m l k q hM => ?_⟩
      · obtain ⟨m1, e, hC1, hF1⟩ := sc m l k q hC
        obtain ⟨m', e', hC', hF'⟩ := rc (e0 + 1) m1 l k q hC1
        have hco : e0 + 1 + d = e0 + (1 + d) := by omega
        rw [hco] at e'
        refine ⟨m', sg_69_50 ⟨rfl, rfl, rfl, rfl, rfl, rfl, rfl, rfl, rfl, rfl, trivial⟩ rfl ?_, hC', FrC_tr hF1 hF'⟩
        have l4 : m (0, 0, 0) 4 = cI (dk_lv N).length := hC.2.2.2.2.2.1
        have l11 : m (11, 0, 0) (v / 65536 % (dk_lv N).length) = cI p := hC.2.2.2.2.2.2 _ _ hp
        simp (disch := omega) only [↓reduceIte, cI_lt, cI_nat, cI_inj, ev, l4, l11, his, hl0, cI_div, cI_mul, cI_sub, hmod, le_F, or_self, Nat.not_lt_zero]
        refine dk_ex_run (kv_69_88 e (sg_69_91 ⟨rfl, rfl, rfl, rfl, rfl, rfl, rfl, rfl, rfl, rfl, trivial⟩ rfl ?_))
        rcases hw with hw | hw
        · simp (disch := omega) only [↓reduceIte, cI_inj, hw, cI_add]
          exact dk_ex_run (dk_ev_ls e' ⟨rfl, rfl, rfl, rfl, rfl, rfl, rfl, rfl, rfl, rfl, trivial⟩ rfl)
        · simp (disch := omega) only [↓reduceIte, cI_inj, hw, cI_add, Nat.reduceEqDiff]
          exact dk_ex_run (dk_ev_ls e' ⟨rfl, rfl, rfl, rfl, rfl, rfl, rfl, rfl, rfl, rfl, trivial⟩ rfl)
      · obtain ⟨m1, e, hM1, hF1⟩ := sm m l k q hM
        obtain ⟨m', e', hM', hF'⟩ := rm (e0 + 1) m1 l k q hM1
        have hco : e0 + 1 + d = e0 + (1 + d) := by omega
        rw [hco, hlv1] at e'
        refine ⟨m', sg_102_80 ⟨rfl, rfl, rfl, rfl, rfl, rfl, rfl, rfl, rfl, rfl, rfl, rfl, trivial⟩ rfl ?_, hM', ⟨FrM_tr hF1.1 hF'.1, by rw [hF'.2, hF1.2]⟩⟩
        simp (disch := omega) only [↓reduceIte, cI_lt, cI_inj, ev, his, hl0, cI_div, cI_mul, cI_sub, hmod]
        refine dk_ex_run (dk_ev_ls (md_102_112 (L := L) (N := N) (idx := v / 65536 % (dk_lv N).length) (p := p) (fun r hr => ⟨(hM.1 r hr).1, (h.1 r hr).1⟩) hp (by omega) (kv_102_156 e (sg_102_159 ⟨rfl, rfl, rfl, rfl, rfl, rfl, rfl, rfl, rfl, rfl, rfl, rfl, trivial⟩ rfl ?_)) 16 0 (v / 65536 % (dk_lv N).length) rfl (by simp [dk_li])) ⟨rfl, rfl, rfl, rfl, rfl, rfl, rfl, rfl, rfl, rfl, rfl, rfl, rfl, rfl, rfl, rfl, trivial⟩ rfl)
        rcases hw with hw | hw
        · simp (disch := omega) only [↓reduceIte, cI_inj, hw, cI_add]
          exact dk_ex_run (dk_ev_ls e' ⟨rfl, rfl, rfl, rfl, rfl, rfl, rfl, rfl, rfl, rfl, rfl, rfl, trivial⟩ rfl)
        · simp (disch := omega) only [↓reduceIte, cI_inj, hw, cI_add, Nat.reduceEqDiff]
          exact dk_ex_run (dk_ev_ls e' ⟨rfl, rfl, rfl, rfl, rfl, rfl, rfl, rfl, rfl, rfl, rfl, rfl, trivial⟩ rfl)
    · have hw2 : ¬ dk_an N1 p = 2 := fun e => hw (Or.inl e)
      have hw3 : ¬ dk_an N1 p = 3 := fun e => hw (Or.inr e)
      refine ⟨N', V', E', W', d, h', fun e0 m l k q hC => ?_, fun e0 m l k q hM => ?_⟩
      · obtain ⟨m1, e, hC1, hF1⟩ := sc m l k q hC
        obtain ⟨m', e', hC', hF'⟩ := rc e0 m1 l k q hC1
        refine ⟨m', sg_69_50 ⟨rfl, rfl, rfl, rfl, rfl, rfl, rfl, rfl, rfl, rfl, trivial⟩ rfl ?_, hC', FrC_tr hF1 hF'⟩
        have l4 : m (0, 0, 0) 4 = cI (dk_lv N).length := hC.2.2.2.2.2.1
        have l11 : m (11, 0, 0) (v / 65536 % (dk_lv N).length) = cI p := hC.2.2.2.2.2.2 _ _ hp
        simp (disch := omega) only [↓reduceIte, cI_lt, cI_nat, cI_inj, ev, l4, l11, his, hl0, cI_div, cI_mul, cI_sub, hmod, le_F, or_self, Nat.not_lt_zero]
        refine dk_ex_run (kv_69_88 e (sg_69_91 ⟨rfl, rfl, rfl, rfl, rfl, rfl, rfl, rfl, rfl, rfl, trivial⟩ rfl ?_))
        simp (disch := omega) only [↓reduceIte, cI_inj, hw2, hw3, cI_add]
        exact dk_ex_run (dk_ev_ls e' ⟨rfl, rfl, rfl, rfl, rfl, rfl, rfl, rfl, rfl, rfl, trivial⟩ rfl)
      · obtain ⟨m1, e, hM1, hF1⟩ := sm m l k q hM
        obtain ⟨m', e', hM', hF'⟩ := rm e0 m1 l k q hM1
        rw [hlv1] at e'
        refine ⟨m', sg_102_80 ⟨rfl, rfl, rfl, rfl, rfl, rfl, rfl, rfl, rfl, rfl, rfl, rfl, trivial⟩ rfl ?_, hM', ⟨FrM_tr hF1.1 hF'.1, by rw [hF'.2, hF1.2]⟩⟩
        simp (disch := omega) only [↓reduceIte, cI_lt, cI_inj, ev, his, hl0, cI_div, cI_mul, cI_sub, hmod]
        refine dk_ex_run (dk_ev_ls (md_102_112 (L := L) (N := N) (idx := v / 65536 % (dk_lv N).length) (p := p) (fun r hr => ⟨(hM.1 r hr).1, (h.1 r hr).1⟩) hp (by omega) (kv_102_156 e (sg_102_159 ⟨rfl, rfl, rfl, rfl, rfl, rfl, rfl, rfl, rfl, rfl, rfl, rfl, trivial⟩ rfl ?_)) 16 0 (v / 65536 % (dk_lv N).length) rfl (by simp [dk_li])) ⟨rfl, rfl, rfl, rfl, rfl, rfl, rfl, rfl, rfl, rfl, rfl, rfl, rfl, rfl, rfl, rfl, trivial⟩ rfl)
        simp (disch := omega) only [↓reduceIte, cI_inj, hw2, hw3, cI_add, Nat.add_zero]
        exact dk_ex_run (dk_ev_ls e' ⟨rfl, rfl, rfl, rfl, rfl, rfl, rfl, rfl, rfl, rfl, rfl, rfl, trivial⟩ rfl)
theorem md_102_27 {a1 a2 : Int32} {m : dkM} {l : Int64} {k q : Nat} {y : dkY} (h0 : ∀ p, p < 16 → m (16, 2, 0) p = cI (N 0 p) ∧ N 0 p ≤ 1) (hk : dk_Ev L (102, 27, [(4, vI (cI 16)), (3, vI (cI (dk_lv N).length)), (0, vR (12, 0, 0)), (1, vI a1), (2, vI a2)], [], (m, l, .inl (), k, q)) y) : ∀ (j i : Nat), i + j = 16 → dk_Ev L (102, 27, [(4, vI (cI i)), (3, vI (cI (dk_li N i).length)), (0, vR (12, 0, 0)), (1, vI a1), (2, vI a2)], [], (m, l, .inl (), k, q)) y := by
  intro j
  induction j with
  | zero =>
    intro i hi
    have hi : i = 16 := by omega
    subst hi
    exact hk
  | succ j ih =>
    intro i hi
    have hi16 : i < 16 := by omega
    obtain ⟨l0, b0⟩ := h0 i hi16
    have e := ih (i + 1) (by omega)
    refine sg_102_27 ⟨rfl, rfl, rfl, rfl, rfl, rfl, rfl, rfl, rfl, rfl, trivial⟩ rfl ?_
    by_cases a0 : N 0 i = 0
    · rw [dk_li_0 a0] at e
      simp (disch := omega) only [↓reduceIte, cI_lt, cI_nat, cI_inj, cI_add, Nat.add_zero, le_F, or_self, Nat.not_lt_zero, hi16, l0, a0]
      exact dk_ex_run e
    · have a1 : N 0 i = 1 := by omega
      rw [dk_li_1 a1, List.length_append, List.length_singleton] at e
      simp (disch := omega) only [↓reduceIte, cI_lt, cI_nat, cI_inj, cI_add, le_F, or_self, Nat.not_lt_zero, hi16, l0, a0]
      exact dk_ex_run e
/-- run -/
theorem bo_run (x w : Int32) (h : IV N E W T n) (hn : n + 1 ≤ 512) : dk_Bo L 70 [(0, vR (0, 0, 0)), (1, vI x), (2, vI w), (3, vR (14, 0, 0))] 102 [(0, vR (12, 0, 0)), (1, vI x), (2, vI w)] N V E W T n dk_Ri := by
  have c1 : (cI 1).toInt = 1 := by decide
  have c0 : (cI 0).toInt = 0 := by decide
  rcases cI_cases w with hw | ⟨s, hs0, rfl⟩
  · have hw1 : w < cI 1 := by rw [Int32.lt_iff_toInt_lt] at hw ⊢; omega
    refine bo_ref h hn (cl_ref (c := 1) (by decide) (fun m l k q hq hC => sg_70_0 ⟨rfl, rfl, rfl, rfl, rfl, rfl, rfl, rfl, trivial⟩ rfl (dk_ex_run (kc_70_5_3 (sg_69_0 ⟨rfl, rfl, rfl, rfl, rfl, rfl, trivial⟩ rfl ?_) (sg_70_15 trivial rfl dk_ex_some))))) (mo_2 (fun m l k q hM => sg_102_0 ⟨rfl, rfl, rfl, rfl, rfl, rfl, trivial⟩ rfl ?_))
    · simp only [↓reduceIte, hw1, hq]; exact dk_ex_some
    · simp only [↓reduceIte, hw1]; exact dk_ex_some
  by_cases hs1 : s < 1
  · refine bo_ref h hn (cl_ref (c := 1) (by decide) (fun m l k q hq hC => sg_70_0 ⟨rfl, rfl, rfl, rfl, rfl, rfl, rfl, rfl, trivial⟩ rfl (dk_ex_run (kc_70_5_3 (sg_69_0 ⟨rfl, rfl, rfl, rfl, rfl, rfl, trivial⟩ rfl ?_) (sg_70_15 trivial rfl dk_ex_some))))) (mo_2 (fun m l k q hM => sg_102_0 ⟨rfl, rfl, rfl, rfl, rfl, rfl, trivial⟩ rfl ?_))
    · simp (disch := omega) only [↓reduceIte, cI_lt, hs1, hq]; exact dk_ex_some
    · simp (disch := omega) only [↓reduceIte, cI_lt, hs1]; exact dk_ex_some
  by_cases hs2 : 5000 < s
  · refine bo_ref h hn (cl_ref (c := 1) (by decide) (fun m l k q hq hC => sg_70_0 ⟨rfl, rfl, rfl, rfl, rfl, rfl, rfl, rfl, trivial⟩ rfl (dk_ex_run (kc_70_5_3 (sg_69_0 ⟨rfl, rfl, rfl, rfl, rfl, rfl, trivial⟩ rfl ?_) (sg_70_15 trivial rfl dk_ex_some))))) (mo_2 (fun m l k q hM => sg_102_0 ⟨rfl, rfl, rfl, rfl, rfl, rfl, trivial⟩ rfl ?_))
    · simp (disch := omega) only [↓reduceIte, cI_lt, hs1, hs2, hq]; exact dk_ex_some
    · simp (disch := omega) only [↓reduceIte, cI_lt, hs1, hs2]; exact dk_ex_some
  have hll : (dk_lv N).length ≤ 16 := dk_li_le 16
  have l4 : ∀ m : dkM, PC N V E W T m → m (0, 0, 0) 4 = cI (dk_lv N).length := fun m hC => hC.2.2.2.2.2.1
  have h0 : ∀ m : dkM, PM N V E W T m → ∀ p, p < 16 → m (16, 2, 0) p = cI (N 0 p) ∧ N 0 p ≤ 1 := fun m hM p hp => ⟨(hM.1 p hp).1, (h.1 p hp).1⟩
  have mod : ∀ (m : dkM) (l : Int64) (k q : Nat) (y : dkY), PM N V E W T m → dk_Ev L (102, 27, [(4, vI (cI 16)), (3, vI (cI (dk_lv N).length)), (0, vR (12, 0, 0)), (1, vI x), (2, vI (cI s))], [], (dk_up m (12, 0, 0) 0 (cI 0), l, .inl (), k, q)) y → dk_Ev L (102, 0, [(0, vR (12, 0, 0)), (1, vI x), (2, vI (cI s))], [], (m, l, .inl (), k, q)) y := fun m l k q y hM hk => by
    refine sg_102_0 ⟨rfl, rfl, rfl, rfl, rfl, rfl, trivial⟩ rfl ?_
    simp (disch := omega) only [↓reduceIte, cI_lt, hs1, hs2]
    exact dk_ex_run (md_102_27 (L := L) (N := N) (h0 _ (PM_thr (z := cI 0) hM)) hk 16 0 rfl)
  by_cases hl0 : (dk_lv N).length = 0
  · refine bo_ref h hn (cl_ref (c := 2) (by decide) (fun m l k q hq hC => sg_70_0 ⟨rfl, rfl, rfl, rfl, rfl, rfl, rfl, rfl, trivial⟩ rfl (dk_ex_run (kc_70_5_2 (sg_69_0 ⟨rfl, rfl, rfl, rfl, rfl, rfl, trivial⟩ rfl ?_) (sg_70_19 trivial rfl dk_ex_some))))) (mo_2 (fun m l k q hM => mod m l k q _ hM (sg_102_27 ⟨rfl, rfl, rfl, rfl, rfl, rfl, rfl, rfl, rfl, rfl, trivial⟩ rfl ?_)))
    · simp (disch := omega) only [↓reduceIte, cI_lt, cI_inj, hs1, hs2, l4 m hC, hl0, hq]; exact dk_ex_some
    · simp (disch := omega) only [↓reduceIte, cI_lt, cI_inj, Nat.lt_irrefl, hl0]; exact dk_ex_some
  obtain ⟨N', V', E', W', d, h', rc, rm⟩ := run_all (L := L) (T := T) (n := n) (s := s) (by omega) s 0 (x &&& cI 2147483647) N V E W (by omega) h hl0
  refine ⟨N', V', E', W', T, 0, (cI (0 + d)).toInt64, some (vI (cI (0 + d))), fun m l k q hq hC => ?_, mo_3 (fun m l k q hM => ?_), IV_up h' (by omega) hn, _, rfl, rfl⟩
  · obtain ⟨m', e, hC', hF⟩ := rc 0 m l k q hC
    refine ⟨m', _, q, sg_70_0 ⟨rfl, rfl, rfl, rfl, rfl, rfl, rfl, rfl, trivial⟩ rfl (dk_ex_run (kv_70_5 (h' := (m', l, .inl (), k, q)) (sg_69_0 ⟨rfl, rfl, rfl, rfl, rfl, rfl, trivial⟩ rfl ?_) (sg_70_8 trivial rfl dk_ex_some))), hC', hF, by omega, fun _ => rfl⟩
    simp (disch := omega) only [↓reduceIte, cI_lt, cI_inj, hs1, hs2, l4 m hC, hl0]
    exact dk_ex_run (dk_ev_ls e ⟨rfl, rfl, rfl, rfl, rfl, rfl, rfl, rfl, rfl, rfl, trivial⟩ rfl)
  · obtain ⟨m', e, hM', hF⟩ := rm 0 _ l k q (PM_thr (z := cI 0) hM)
    refine ⟨m', mod m l k q _ hM (sg_102_27 ⟨rfl, rfl, rfl, rfl, rfl, rfl, rfl, rfl, rfl, rfl, trivial⟩ rfl ?_), hM', hF⟩
    simp (disch := omega) only [↓reduceIte, cI_lt, cI_inj, Nat.lt_irrefl, hl0]
    exact dk_ex_run (dk_ev_ls e ⟨rfl, rfl, rfl, rfl, rfl, rfl, rfl, rfl, rfl, rfl, rfl, rfl, trivial⟩ rfl)
end
