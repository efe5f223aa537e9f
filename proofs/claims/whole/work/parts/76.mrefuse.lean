/-! the reference's offer refused -/
theorem cI_out {x : Int32} {n : Nat} (hn : n + 1 < 2147483648) (h : ¬ x < cI (n + 1)) : cI n < x := by
  rw [Int32.lt_iff_toInt_lt, cI_toInt hn] at h
  rw [Int32.lt_iff_toInt_lt, cI_toInt (by omega)]
  omega
/-- a number of a process, or not -/
theorem cI_range (x : Int32) (n : Nat) (hn : n + 1 < 2147483648) : x < cI 0 ∨ (¬ x < cI 0 ∧ ¬ x < cI (n + 1) ∧ cI n < x) ∨ ∃ p, p < n + 1 ∧ x = cI p := by
  by_cases h0 : x < cI 0
  · exact Or.inl h0
  · by_cases h1 : x < cI (n + 1)
    · exact Or.inr (Or.inr (cI_of h0 h1 hn))
    · exact Or.inr (Or.inl ⟨h0, h1, cI_out hn h1⟩)
theorem n10 : ¬ cI 1 = cI 0 := by decide
theorem n20 : ¬ cI 2 = cI 0 := by decide
section
variable {L : Nat} {m : dkM} {l : Int64} {k q : Nat}
theorem md_offer_1 {x : Int32} (hx : x < cI 0 ∨ (¬ x < cI 0 ∧ cI 15 < x)) : dk_Ev L (81, 0, [(0, vR (12, 0, 0)), (1, vI x)], [], (m, l, .inl (), k, q)) ((dk_up m (12, 0, 0) 0 (cI 1), l, .inl (), k, q), .inl (some (vI (cI 0)))) := by
  refine sg_81_0 ⟨rfl, rfl, rfl, rfl, trivial⟩ rfl ?_
  rcases hx with h | ⟨h, h'⟩
  · simp only [if_pos h, dk_up_eq, if_neg n10]; exact dk_ex_some
  · simp only [if_neg h, if_pos h', dk_up_eq, if_neg n10]; exact dk_ex_some
theorem md_offer_2 {p : Nat} (hp : p < 16) (h2 : m (16, 2, 0) p = cI 0) : dk_Ev L (81, 0, [(0, vR (12, 0, 0)), (1, vI (cI p))], [], (m, l, .inl (), k, q)) ((dk_up m (12, 0, 0) 0 (cI 2), l, .inl (), k, q), .inl (some (vI (cI 0)))) := by
  refine sg_81_0 ⟨rfl, rfl, rfl, rfl, trivial⟩ rfl ?_
  simp (disch := omega) only [cI_lt, cI_nat, cI_inj, h2, dk_up_eq, if_pos, if_neg, if_true, if_false]
  exact dk_ex_some
theorem md_offer_3 {p z : Nat} (hp : p < 16) (h2 : m (16, 2, 0) p = cI 1) (h6 : m (13, 6, 0) p = cI z) (hz : z < 9) : dk_Ev L (81, 0, [(0, vR (12, 0, 0)), (1, vI (cI p))], [], (m, l, .inl (), k, q)) ((dk_up (dk_up m (12, 0, 0) 0 (cI 0)) (12, 0, 0) 0 (cI 3), l, .inl (), k, q), .inl (some (vI (cI 0)))) := by
  refine sg_81_0 ⟨rfl, rfl, rfl, rfl, trivial⟩ rfl ?_
  simp (disch := omega) only [cI_lt, cI_nat, cI_inj, h2, h6, dk_up_eq, dk_up_k, if_pos, if_neg, if_true, if_false]
  exact dk_ex_some
end
