/-! the law's run, whole -/
def dk_N0 : dkNN := fun f _ => if f = 3 then 9 else 0
theorem IV_0 : IV dk_N0 (fun _ => []) [] 0 0 := by
  refine ⟨fun p _ => ?_, fun i _ => ?_, fun p _ => ?_, fun c _ => ⟨List.nodup_nil, fun e he => by cases he⟩, ?_, Nat.le_refl _, fun p _ => Nat.le_refl _, by omega⟩
  · simp [BDp, dk_N0]
  · simp [BDg, dk_N0]
  · simp [IVp, dk_N0]
  · have h : dk_sm (dk_cr dk_N0) 16 ≤ dk_sm (fun _ => 0) 16 := dk_sm_le 16 (fun i _ => by simp [dk_cr, dk_N0])
    have h2 : dk_sm (fun _ => 0) 16 = 0 := by decide
    simp only [List.length_nil]
    omega
theorem dk_At_0 {h : dkH} (hck : dk_ckh h = true) (xs : Nat → Int32) : dk_At dk_N0 (fun _ _ => cI 0) (fun _ => []) [] 0 0 (fun a f => if a.1 = 15 then xs f else h.1 a f) h.2.2.2.2 := by
  simp only [dk_ckh, Bool.and_eq_true, List.all_eq_true, List.mem_range, beq_iff_eq] at hck
  obtain ⟨⟨⟨⟨⟨⟨⟨⟨hq, hp⟩, hi⟩, hc⟩, h9⟩, h04⟩, h05⟩, h26⟩, h1⟩ := hck
  refine ⟨IV_0, ⟨fun p hr => ?_, fun p hr g hg => ?_, fun c hr => ?_, ?_, ?_, ?_⟩, ⟨fun p hr => ?_, fun i hr => ?_, fun c hr => ?_, ?_, ?_⟩, by omega⟩
  · have := hp p hr
    simp [PCp, dk_N0, this]
  · have := (hp p hr).2 g hg
    simp [PCg, dk_N0, this]
  · have := hc c hr
    simp [PCl, this]
  · simp [PCw, h9]
  · simp [h05]
  · have e : dk_lv dk_N0 = [] := by decide
    simp [PCv, e, h04]
  · have := hp p hr
    simp [PMp, dk_N0, this]
  · have := hi i hr
    simp [PMg, dk_N0, this]
  · have := hc c hr
    simp [PMl, this]
  · simp [PMw, h26]
  · simp [h1]
theorem dk_pure0 {L : Nat} (hL : L ≤ 3072) (xs : Nat → Int32) : ∃ n y, dk_run L (dk_OX L) n some (104, 0, [(0, vR (15, 0, 0))], [], (fun a f => if a.1 = 15 then xs f else 0, 0, .inr (fun _ _ => false), 0, 0)) = some y ∧ y.2 = .inl (some (vI (cI 1))) := by
  obtain ⟨h1, hcut, hck⟩ := dk_head_at
  obtain ⟨y, ey, hy⟩ := law_loop hL L 0 (by omega) dk_N0 (fun _ _ => cI 0) (fun _ => []) [] 0 _ h1.2.1 h1.2.2.2.1 h1.2.2.2.2 (dk_At_0 hck xs) (by omega)
  obtain ⟨K, eK⟩ := dk_ev_ls (ls' := dk_LS) ey ⟨rfl, rfl, rfl, rfl, rfl, rfl, rfl, rfl, rfl, rfl, trivial⟩ rfl
  obtain ⟨k, hk, e⟩ := dk_cut_rel (L := L) (K := K) (O := dk_OX L) (xs := xs) 8000 (fun _ => none) some 104 0 [(0, vR (15, 0, 0))] [] (fun _ _ => 0) (fun a f => if a.1 = 15 then xs f else 0) (0, .inr (fun _ _ => false), 0, 0) (Nat.le_refl _) (fun _ => rfl) (fun _ _ _ _ _ _ h => by cases h) (fun _ _ => rfl) h1 hcut
  exact ⟨8000 + K, y, e.trans (dk_run_mono hk eK), hy⟩
