/-! waiting and pair on both sides -/
section
variable {L : Nat} {N : dkNN} {V : dkVV} {E : dkEE} {W : dkWW} {T n : Nat}
theorem bo_same {jc jm : Nat} {ac am : dkL} (h : IV N E W T n) (hn : n + 1 ≤ 512) (b : Int32) (e1 : ∀ (m : dkM) (l : Int64) (k q : Nat), PC N V E W T m → dk_Ev L (jc, 0, ac, [], (m, l, .inl (), k, q)) ((m, b.toInt64, .inl (), k, q), .inl (some (vI (cI 0))))) (e2 : ∀ (m : dkM) (l : Int64) (k q : Nat), PM N V E W T m → dk_Ev L (jm, 0, am, [], (m, l, .inl (), k, q)) ((dk_up m (12, 0, 0) 0 (cI 0), l, .inl (), k, q), .inl (some (vI b)))) : dk_Bo L jc ac jm am N V E W T n dk_Ri :=
  ⟨N, V, E, W, T, 0, b.toInt64, some (vI b), fun m l k q hq hC => ⟨m, _, q, e1 m l k q hC, hC, FrC_refl, by omega, fun _ => rfl⟩, mo_1 e2, IV_up h (by omega) hn, b, rfl, rfl⟩
/-- waiting -/
theorem bo_waiting (x y w : Int32) (h : IV N E W T n) (hn : n + 1 ≤ 512) : dk_Bo L 66 [(0, vR (0, 0, 0)), (1, vI x), (2, vI y), (3, vI w), (4, vR (14, 0, 0))] 100 [(0, vR (12, 0, 0)), (1, vI x), (2, vI y), (3, vI w)] N V E W T n dk_Ri := by
  have hB := IV_BD h
  have rf : (∀ (m : dkM) (l : Int64) (k q : Nat), q < 600 → PC N V E W T m → dk_Ev L (66, 0, [(0, vR (0, 0, 0)), (1, vI x), (2, vI y), (3, vI w), (4, vR (14, 0, 0))], [], (m, l, .inl (), k, q)) ((m, l, .inl (), k, q + 1), .inl (some (vI (cI 1))))) → (∀ (m : dkM) (l : Int64) (k q : Nat), PM N V E W T m → dk_Ev L (100, 0, [(0, vR (12, 0, 0)), (1, vI x), (2, vI y), (3, vI w)], [], (m, l, .inl (), k, q)) ((dk_up (dk_up m (12, 0, 0) 0 (cI 0)) (12, 0, 0) 0 (cI 1), l, .inl (), k, q), .inl (some (vI (cI 0))))) → dk_Bo L 66 [(0, vR (0, 0, 0)), (1, vI x), (2, vI y), (3, vI w), (4, vR (14, 0, 0))] 100 [(0, vR (12, 0, 0)), (1, vI x), (2, vI y), (3, vI w)] N V E W T n dk_Ri := fun h1 h2 => bo_ref h hn (cl_ref (by decide) h1) (mo_2 h2)
  rcases cI_cases x with hx | ⟨c, hc0, rfl⟩
  · refine rf (fun m l k q hq hC => sg_66_0 ⟨rfl, rfl, rfl, rfl, rfl, rfl, rfl, rfl, rfl, rfl, trivial⟩ rfl ?_) (fun m l k q hM => sg_100_0 ⟨rfl, rfl, rfl, rfl, rfl, rfl, rfl, rfl, trivial⟩ rfl ?_)
    · simp only [↓reduceIte, hx, hq]; exact dk_ex_some
    · simp only [↓reduceIte, hx]; exact dk_ex_some
  by_cases hc : c < 8
  rotate_left
  · have hc7 : 7 < c := by omega
    refine rf (fun m l k q hq hC => sg_66_0 ⟨rfl, rfl, rfl, rfl, rfl, rfl, rfl, rfl, rfl, rfl, trivial⟩ rfl ?_) (fun m l k q hM => sg_100_0 ⟨rfl, rfl, rfl, rfl, rfl, rfl, rfl, rfl, trivial⟩ rfl ?_)
    · simp (disch := omega) only [↓reduceIte, cI_lt, Nat.not_lt_zero, hc, hq]; exact dk_ex_some
    · simp (disch := omega) only [↓reduceIte, cI_lt, Nat.not_lt_zero, hc7]; exact dk_ex_some
  have hc7 : ¬ 7 < c := by omega
  have hle : (E c).length ≤ 64 := (hB.2.2.1 c hc).1
  have zc : ∀ m : dkM, PC N V E W T m → m (7, c, 0) 3 = cI (E c).length := fun m hC => (hC.2.2.1 c hc).1
  have zm : ∀ m : dkM, PM N V E W T m → m (13, 23, 0) c = cI (E c).length := fun m hM => (hM.2.2.1 c hc).1
  rcases cI_cases y with hy | ⟨i, hi0, rfl⟩
  · refine rf (fun m l k q hq hC => sg_66_0 ⟨rfl, rfl, rfl, rfl, rfl, rfl, rfl, rfl, rfl, rfl, trivial⟩ rfl ?_) (fun m l k q hM => sg_100_0 ⟨rfl, rfl, rfl, rfl, rfl, rfl, rfl, rfl, trivial⟩ rfl ?_)
    · simp (disch := omega) only [↓reduceIte, cI_lt, Nat.not_lt_zero, hc, hy, hq]; exact dk_ex_some
    · simp (disch := omega) only [↓reduceIte, cI_lt, cI_nat, le_F, or_self, Nat.not_lt_zero, hc7, hy]; exact dk_ex_some
  by_cases hi : i < (E c).length
  rotate_left
  · have hi2 : (E c).length ≤ i := by omega
    refine rf (fun m l k q hq hC => sg_66_0 ⟨rfl, rfl, rfl, rfl, rfl, rfl, rfl, rfl, rfl, rfl, trivial⟩ rfl ?_) (fun m l k q hM => sg_100_0 ⟨rfl, rfl, rfl, rfl, rfl, rfl, rfl, rfl, trivial⟩ rfl ?_)
    · simp (disch := omega) only [↓reduceIte, cI_lt, cI_nat, le_F, or_self, Nat.not_lt_zero, hc, zc m hC, hi, hq]; exact dk_ex_some
    · simp (disch := omega) only [↓reduceIte, cI_lt, cI_nat, cI_pred_lt, hi2, le_F, or_self, Nat.not_lt_zero, hc7, zm m hM, dk_up_k]; exact dk_ex_some
  have hi2 : ¬ (E c).length ≤ i := by omega
  rcases cI_cases w with hw | ⟨z, hz0, rfl⟩
  · refine rf (fun m l k q hq hC => sg_66_0 ⟨rfl, rfl, rfl, rfl, rfl, rfl, rfl, rfl, rfl, rfl, trivial⟩ rfl ?_) (fun m l k q hM => sg_100_0 ⟨rfl, rfl, rfl, rfl, rfl, rfl, rfl, rfl, trivial⟩ rfl ?_)
    · simp (disch := omega) only [↓reduceIte, cI_lt, cI_nat, le_F, or_self, Nat.not_lt_zero, hc, zc m hC, hi, cI_neg_ne hw, hq]; exact dk_ex_some
    · simp (disch := omega) only [↓reduceIte, cI_lt, cI_nat, cI_pred_lt, hi2, le_F, or_self, Nat.not_lt_zero, hc7, zm m hM, dk_up_k, hw]; exact dk_ex_some
  by_cases hz : z ≤ 2
  rotate_left
  · have z2 : 2 < z := by omega
    have n0 : ¬ z = 0 := by omega
    have n1 : ¬ z = 1 := by omega
    have n2 : ¬ z = 2 := by omega
    refine rf (fun m l k q hq hC => sg_66_0 ⟨rfl, rfl, rfl, rfl, rfl, rfl, rfl, rfl, rfl, rfl, trivial⟩ rfl ?_) (fun m l k q hM => sg_100_0 ⟨rfl, rfl, rfl, rfl, rfl, rfl, rfl, rfl, trivial⟩ rfl ?_)
    · simp (disch := omega) only [↓reduceIte, cI_lt, cI_nat, cI_inj, le_F, or_self, Nat.not_lt_zero, hc, zc m hC, hi, n0, n1, n2, hq]; exact dk_ex_some
    · simp (disch := omega) only [↓reduceIte, cI_lt, cI_nat, cI_pred_lt, hi2, le_F, or_self, Nat.not_lt_zero, hc7, zm m hM, dk_up_k, z2]; exact dk_ex_some
  have z2 : ¬ 2 < z := by omega
  have he : (E c)[i]? = some (E c)[i] := List.getElem?_eq_getElem hi
  generalize (E c)[i] = e at he
  obtain ⟨b1, b2⟩ := (hB.2.2.1 c hc).2 e (List.mem_of_getElem? he)
  have ec := fun (m : dkM) (hC : PC N V E W T m) => (hC.2.2.1 c hc).2 i e he
  have em := fun (m : dkM) (hM : PM N V E W T m) => (hM.2.2.1 c hc).2 i e he
  have hrr : e.1 - e.1 / 4 * 4 = e.1 % 4 := by omega
  have hpl : ¬ (E c).length - 1 < i := by omega
  have hzc : z = 0 ∨ z = 1 ∨ z = 2 := by omega
  rcases hzc with rfl | rfl | rfl
  · refine bo_same h hn (cI (e.1 / 4)) (fun m l k q hC => sg_66_0 ⟨rfl, rfl, rfl, rfl, rfl, rfl, rfl, rfl, rfl, rfl, trivial⟩ rfl ?_) (fun m l k q hM => sg_100_0 ⟨rfl, rfl, rfl, rfl, rfl, rfl, rfl, rfl, trivial⟩ rfl ?_)
    · simp (disch := omega) only [↓reduceIte, cI_lt, cI_nat, cI_inj, le_F, or_self, Nat.not_lt_zero, hc, zc m hC, hi, (ec m hC).1]; exact dk_ex_some
    · simp (disch := omega) only [↓reduceIte, cI_lt, cI_nat, cI_mul, cI_add, cI_inj, cI_div, cI_pred_lt, hi2, le_F, or_self, Nat.not_lt_zero, hc7, zm m hM, dk_up_k, z2, (em m hM).1]; exact dk_ex_some
  · refine bo_same h hn (cI e.2) (fun m l k q hC => sg_66_0 ⟨rfl, rfl, rfl, rfl, rfl, rfl, rfl, rfl, rfl, rfl, trivial⟩ rfl ?_) (fun m l k q hM => sg_100_0 ⟨rfl, rfl, rfl, rfl, rfl, rfl, rfl, rfl, trivial⟩ rfl ?_)
    · simp (disch := omega) only [↓reduceIte, cI_lt, cI_nat, cI_inj, le_F, or_self, Nat.not_lt_zero, Nat.reduceEqDiff, hc, zc m hC, hi, (ec m hC).2.1]; exact dk_ex_some
    · simp (disch := omega) only [↓reduceIte, cI_lt, cI_nat, cI_mul, cI_add, cI_inj, cI_div, cI_pred_lt, hi2, le_F, or_self, Nat.not_lt_zero, Nat.reduceEqDiff, hc7, zm m hM, dk_up_k, z2, (em m hM).2]; exact dk_ex_some
  · refine bo_same h hn (cI (e.1 % 4)) (fun m l k q hC => sg_66_0 ⟨rfl, rfl, rfl, rfl, rfl, rfl, rfl, rfl, rfl, rfl, trivial⟩ rfl ?_) (fun m l k q hM => sg_100_0 ⟨rfl, rfl, rfl, rfl, rfl, rfl, rfl, rfl, trivial⟩ rfl ?_)
    · simp (disch := omega) only [↓reduceIte, cI_lt, cI_nat, cI_inj, le_F, or_self, Nat.not_lt_zero, Nat.reduceEqDiff, hc, zc m hC, hi, (ec m hC).2.2]; exact dk_ex_some
    · simp (disch := omega) only [↓reduceIte, cI_lt, cI_nat, cI_mul, cI_add, cI_inj, cI_div, cI_sub, hrr, hpl, hi2, le_F, or_self, Nat.not_lt_zero, Nat.reduceEqDiff, hc7, zm m hM, dk_up_k, z2, (em m hM).1]; exact dk_ex_some
/-- pair -/
theorem bo_pair (x w : Int32) (h : IV N E W T n) (hn : n + 1 ≤ 512) : dk_Bo L 68 [(0, vR (0, 0, 0)), (1, vI x), (2, vI w), (3, vR (14, 0, 0))] 101 [(0, vR (12, 0, 0)), (1, vI x), (2, vI w)] N V E W T n dk_Ri := by
  have hB := IV_BD h
  have hW : W.length ≤ 128 := hB.2.2.2.1
  have rf : (∀ (m : dkM) (l : Int64) (k q : Nat), q < 600 → PC N V E W T m → dk_Ev L (68, 0, [(0, vR (0, 0, 0)), (1, vI x), (2, vI w), (3, vR (14, 0, 0))], [], (m, l, .inl (), k, q)) ((m, l, .inl (), k, q + 1), .inl (some (vI (cI 1))))) → (∀ (m : dkM) (l : Int64) (k q : Nat), PM N V E W T m → dk_Ev L (101, 0, [(0, vR (12, 0, 0)), (1, vI x), (2, vI w)], [], (m, l, .inl (), k, q)) ((dk_up (dk_up m (12, 0, 0) 0 (cI 0)) (12, 0, 0) 0 (cI 1), l, .inl (), k, q), .inl (some (vI (cI 0))))) → dk_Bo L 68 [(0, vR (0, 0, 0)), (1, vI x), (2, vI w), (3, vR (14, 0, 0))] 101 [(0, vR (12, 0, 0)), (1, vI x), (2, vI w)] N V E W T n dk_Ri := fun h1 h2 => bo_ref h hn (cl_ref (by decide) h1) (mo_2 h2)
  rcases cI_cases x with hx | ⟨i, hi0, rfl⟩
  · refine rf (fun m l k q hq hC => sg_68_0 ⟨rfl, rfl, rfl, rfl, rfl, rfl, rfl, rfl, trivial⟩ rfl ?_) (fun m l k q hM => sg_101_0 ⟨rfl, rfl, rfl, rfl, rfl, rfl, trivial⟩ rfl ?_)
    · simp only [↓reduceIte, hx, hq]; exact dk_ex_some
    · simp only [↓reduceIte, hx]; exact dk_ex_some
  have zc : ∀ m : dkM, PC N V E W T m → m (9, 0, 0) 5 = cI W.length := fun m hC => hC.2.2.2.1.1
  have zm : ∀ m : dkM, PM N V E W T m → m (12, 0, 0) 26 = cI W.length := fun m hM => hM.2.2.2.1.1
  by_cases hi : i < W.length
  rotate_left
  · have hi2 : W.length ≤ i := by omega
    refine rf (fun m l k q hq hC => sg_68_0 ⟨rfl, rfl, rfl, rfl, rfl, rfl, rfl, rfl, trivial⟩ rfl ?_) (fun m l k q hM => sg_101_0 ⟨rfl, rfl, rfl, rfl, rfl, rfl, trivial⟩ rfl ?_)
    · simp (disch := omega) only [↓reduceIte, cI_lt, Nat.not_lt_zero, zc m hC, hi, hq]; exact dk_ex_some
    · simp (disch := omega) only [↓reduceIte, cI_lt, Nat.not_lt_zero, cI_pred_lt, hi2, zm m hM, dk_up_f]; exact dk_ex_some
  have hi2 : ¬ W.length ≤ i := by omega
  rcases cI_cases w with hw | ⟨z, hz0, rfl⟩
  · refine rf (fun m l k q hq hC => sg_68_0 ⟨rfl, rfl, rfl, rfl, rfl, rfl, rfl, rfl, trivial⟩ rfl ?_) (fun m l k q hM => sg_101_0 ⟨rfl, rfl, rfl, rfl, rfl, rfl, trivial⟩ rfl ?_)
    · simp (disch := omega) only [↓reduceIte, cI_lt, Nat.not_lt_zero, zc m hC, hi, cI_neg_ne hw, hq]; exact dk_ex_some
    · simp (disch := omega) only [↓reduceIte, cI_lt, Nat.not_lt_zero, cI_pred_lt, hi2, zm m hM, dk_up_f, hw]; exact dk_ex_some
  by_cases hz : z ≤ 4
  rotate_left
  · have z4 : 4 < z := by omega
    have n0 : ¬ z = 0 := by omega
    have n1 : ¬ z = 1 := by omega
    have n2 : ¬ z = 2 := by omega
    have n3 : ¬ z = 3 := by omega
    have n4 : ¬ z = 4 := by omega
    refine rf (fun m l k q hq hC => sg_68_0 ⟨rfl, rfl, rfl, rfl, rfl, rfl, rfl, rfl, trivial⟩ rfl ?_) (fun m l k q hM => sg_101_0 ⟨rfl, rfl, rfl, rfl, rfl, rfl, trivial⟩ rfl ?_)
    · simp (disch := omega) only [↓reduceIte, cI_lt, cI_inj, Nat.not_lt_zero, zc m hC, hi, n0, n1, n2, n3, n4, hq]; exact dk_ex_some
    · simp (disch := omega) only [↓reduceIte, cI_lt, Nat.not_lt_zero, cI_pred_lt, hi2, zm m hM, dk_up_f, z4]; exact dk_ex_some
  have z4 : ¬ 4 < z := by omega
  have he : W[i]? = some W[i] := List.getElem?_eq_getElem hi
  generalize W[i] = e at he
  have ec := fun (m : dkM) (hC : PC N V E W T m) => hC.2.2.2.1.2 i e he
  have em := fun (m : dkM) (hM : PM N V E W T m) => hM.2.2.2.1.2 i e he
  have hzc : z = 0 ∨ z = 1 ∨ z = 2 ∨ z = 3 ∨ z = 4 := by omega
  rcases hzc with rfl | rfl | rfl | rfl | rfl
  · refine bo_same h hn (cI e.1) (fun m l k q hC => sg_68_0 ⟨rfl, rfl, rfl, rfl, rfl, rfl, rfl, rfl, trivial⟩ rfl ?_) (fun m l k q hM => sg_101_0 ⟨rfl, rfl, rfl, rfl, rfl, rfl, trivial⟩ rfl ?_)
    · simp (disch := omega) only [↓reduceIte, cI_lt, cI_nat, cI_inj, le_F, or_self, Nat.not_lt_zero, zc m hC, hi, (ec m hC).1]; exact dk_ex_some
    · simp (disch := omega) only [↓reduceIte, cI_lt, cI_nat, cI_mul, cI_add, cI_pred_lt, hi2, le_F, or_self, Nat.not_lt_zero, Nat.add_zero, zm m hM, dk_up_k, dk_up_f, z4, (em m hM).1]; exact dk_ex_some
  · refine bo_same h hn (cI e.2.1) (fun m l k q hC => sg_68_0 ⟨rfl, rfl, rfl, rfl, rfl, rfl, rfl, rfl, trivial⟩ rfl ?_) (fun m l k q hM => sg_101_0 ⟨rfl, rfl, rfl, rfl, rfl, rfl, trivial⟩ rfl ?_)
    · simp (disch := omega) only [↓reduceIte, cI_lt, cI_nat, cI_inj, le_F, or_self, Nat.not_lt_zero, Nat.reduceEqDiff, zc m hC, hi, (ec m hC).2.1]; exact dk_ex_some
    · simp (disch := omega) only [↓reduceIte, cI_lt, cI_nat, cI_mul, cI_add, cI_pred_lt, hi2, le_F, or_self, Nat.not_lt_zero, zm m hM, dk_up_k, dk_up_f, z4, (em m hM).2.1]; exact dk_ex_some
  · refine bo_same h hn (cI e.2.2.1) (fun m l k q hC => sg_68_0 ⟨rfl, rfl, rfl, rfl, rfl, rfl, rfl, rfl, trivial⟩ rfl ?_) (fun m l k q hM => sg_101_0 ⟨rfl, rfl, rfl, rfl, rfl, rfl, trivial⟩ rfl ?_)
    · simp (disch := omega) only [↓reduceIte, cI_lt, cI_nat, cI_inj, le_F, or_self, Nat.not_lt_zero, Nat.reduceEqDiff, zc m hC, hi, (ec m hC).2.2.1]; exact dk_ex_some
    · simp (disch := omega) only [↓reduceIte, cI_lt, cI_nat, cI_mul, cI_add, cI_pred_lt, hi2, le_F, or_self, Nat.not_lt_zero, zm m hM, dk_up_k, dk_up_f, z4, (em m hM).2.2.1]; exact dk_ex_some
  · refine bo_same h hn (cI e.2.2.2.1) (fun m l k q hC => sg_68_0 ⟨rfl, rfl, rfl, rfl, rfl, rfl, rfl, rfl, trivial⟩ rfl ?_) (fun m l k q hM => sg_101_0 ⟨rfl, rfl, rfl, rfl, rfl, rfl, trivial⟩ rfl ?_)
    · simp (disch := omega) only [↓reduceIte, cI_lt, cI_nat, cI_inj, le_F, or_self, Nat.not_lt_zero, Nat.reduceEqDiff, zc m hC, hi, (ec m hC).2.2.2.1]; exact dk_ex_some
    · simp (disch := omega) only [↓reduceIte, cI_lt, cI_nat, cI_mul, cI_add, cI_pred_lt, hi2, le_F, or_self, Nat.not_lt_zero, zm m hM, dk_up_k, dk_up_f, z4, (em m hM).2.2.2.1]; exact dk_ex_some
  · refine bo_same h hn e.2.2.2.2 (fun m l k q hC => sg_68_0 ⟨rfl, rfl, rfl, rfl, rfl, rfl, rfl, rfl, trivial⟩ rfl ?_) (fun m l k q hM => sg_101_0 ⟨rfl, rfl, rfl, rfl, rfl, rfl, trivial⟩ rfl ?_)
    · simp (disch := omega) only [↓reduceIte, cI_lt, cI_nat, cI_inj, le_F, or_self, Nat.not_lt_zero, Nat.reduceEqDiff, zc m hC, hi, (ec m hC).2.2.2.2]; exact dk_ex_some
    · simp (disch := omega) only [↓reduceIte, cI_lt, cI_nat, cI_mul, cI_add, cI_pred_lt, hi2, le_F, or_self, Nat.not_lt_zero, zm m hM, dk_up_k, dk_up_f, z4, (em m hM).2.2.2.2]; exact dk_ex_some
end
