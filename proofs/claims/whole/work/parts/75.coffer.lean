/-! the law's call of offer, the class's side -/
theorem dq_off_5 {N : dkNN} {p : Nat} : dq_off N p 5 p = N 5 p + 1 := by
  unfold dq_off; split <;> simp [nU]
/-- refused: no such process, not live, not idle -/
theorem cl_offer_1 {L : Nat} {m : dkM} {l : Int64} {k q : Nat} {x : Int32} (hx : x < cI 0 ∨ ¬ x < cI 16) (hq : q < 600) : dk_Ev L (28, 0, [(0, vR (0, 0, 0)), (1, vI x), (2, vR (14, 0, 0))], [], (m, l, .inl (), k, q)) ((m, l, .inl (), k, q + 1), .inl (some (vI (cI 1)))) := by
  refine sg_28_0 ⟨rfl, rfl, rfl, rfl, rfl, rfl, trivial⟩ rfl (dk_ex_run (kc_28_4_1 (h' := (m, l, .inl (), k, q + 1)) ?_ (sg_28_13 trivial rfl dk_ex_some)))
  refine sg_27_0 ⟨rfl, rfl, rfl, rfl, trivial⟩ rfl ?_
  rcases hx with h | h
  · simp only [if_pos h, if_pos hq]
    exact dk_ex_some
  · by_cases h0 : x < cI 0
    · simp only [if_pos h0, if_pos hq]; exact dk_ex_some
    · simp only [if_neg h0, if_neg h, if_pos hq]; exact dk_ex_some
theorem cl_offer_2 {L : Nat} {m : dkM} {l : Int64} {k q p : Nat} (hp : p < 16) (h3 : m (2, p, 0) 3 = cI 0) (hq : q < 600) : dk_Ev L (28, 0, [(0, vR (0, 0, 0)), (1, vI (cI p)), (2, vR (14, 0, 0))], [], (m, l, .inl (), k, q)) ((m, l, .inl (), k, q + 1), .inl (some (vI (cI 2)))) := by
  refine sg_28_0 ⟨rfl, rfl, rfl, rfl, rfl, rfl, trivial⟩ rfl (dk_ex_run (kc_28_4_2 (h' := (m, l, .inl (), k, q + 1)) ?_ (sg_28_16 trivial rfl dk_ex_some)))
  refine sg_27_0 ⟨rfl, rfl, rfl, rfl, trivial⟩ rfl ?_
  simp (disch := omega) only [cI_lt, cI_nat, cI_inj, h3, if_pos, if_neg]
  exact dk_ex_some
theorem cl_offer_3 {L : Nat} {m : dkM} {l : Int64} {k q p : Nat} {z : Nat} (hp : p < 16) (h3 : m (2, p, 0) 3 = cI 1) (h7 : m (2, p, 0) 7 = cI z) (hz : z < 9) (hq : q < 600) : dk_Ev L (28, 0, [(0, vR (0, 0, 0)), (1, vI (cI p)), (2, vR (14, 0, 0))], [], (m, l, .inl (), k, q)) ((m, l, .inl (), k, q + 1), .inl (some (vI (cI 3)))) := by
  refine sg_28_0 ⟨rfl, rfl, rfl, rfl, rfl, rfl, trivial⟩ rfl (dk_ex_run (kc_28_4_4 (h' := (m, l, .inl (), k, q + 1)) ?_ (sg_28_19 trivial rfl dk_ex_some)))
  refine sg_27_0 ⟨rfl, rfl, rfl, rfl, trivial⟩ rfl ?_
  simp (disch := omega) only [cI_lt, cI_nat, cI_inj, h3, h7, if_pos, if_neg]
  exact dk_ex_some
/-- taken -/
theorem cl_offer_v {N : dkNN} {V : dkVV} {E : dkEE} {W : dkWW} {T : Nat} {m' : dkM} {p : Nat} (hp : p < 16) (hC' : PC (dq_off N p) V E W T m') : m' (3, p, 0) 1 = cI (N 5 p + 1) := by
  have h := hC'.1 p hp
  unfold PCp at h
  rw [h.2.2.2.2.2.2.1, dq_off_5]
theorem cl_offer {L : Nat} {N : dkNN} {V : dkVV} {E : dkEE} {W : dkWW} {T : Nat} {m : dkM} {l : Int64} {k q : Nat} {p : Nat} (hp : p < 16) (hC : PC N V E W T m) (hB : BD N E W T) (h0 : N 0 p = 1) (h3 : N 3 p = 9) : ∃ m', dk_Ev L (28, 0, [(0, vR (0, 0, 0)), (1, vI (cI p)), (2, vR (14, 0, 0))], [], (m, l, .inl (), k, q)) ((m', (cI (N 5 p + 1)).toInt64, .inl (), k, q), .inl (some (vI (cI 0)))) ∧ PC (dq_off N p) V E W T m' ∧ FrC m m' := by
  obtain ⟨m', hb, hC', hF⟩ := cl_begin (L := L) (l := l) (k := k) (q := q) hp hC hB
  have hP := hC.1 p hp
  have e3 : m (2, p, 0) 3 = cI 1 := by rw [hP.2.1, h0]
  have e7 : m (2, p, 0) 7 = cI 9 := by rw [hP.2.2.2.2.1, h3]
  have e5 := cl_offer_v hp hC'
  refine ⟨m', ?_, hC', hF⟩
  rw [← e5]
  refine sg_28_0 ⟨rfl, rfl, rfl, rfl, rfl, rfl, trivial⟩ rfl (dk_ex_run (kv_28_4 (w := m' (3, p, 0) 1) (h' := (m', l, .inl (), k, q)) ?_ (sg_28_7 trivial rfl dk_ex_some)))
  refine sg_27_0 ⟨rfl, rfl, rfl, rfl, trivial⟩ rfl ?_
  simp (disch := omega) only [cI_lt, cI_nat, cI_inj, e3, e7, if_pos, if_neg, if_true, if_false]
  exact dk_ex_run (kv_27_11 hb (sg_27_14 (a2 := p) ⟨rfl, rfl, trivial⟩ rfl dk_ex_some))
