/-! the constructors: run once, with an empty script, cut at the head of the law's loop; what is run so stands for every script -/
def dk_LS : dkL := [(4, vI 0), (3, vR (14, 0, 0)), (2, vR (12, 0, 0)), (1, vR (0, 0, 0)), (0, vR (15, 0, 0))]
def dk_ok15 (st : List dkV) : Bool := st.all (fun v => match v with
  | .inr (.inl a) => a.1 != 15
  | _ => true)
def dk_On : Nat → List dkV → dkH → dkR := fun _ _ _ => none
def dk_cut : Nat → (dkY → dkR) → dkS → dkR
  | 0, _, _ => none
  | n + 1, kr, (mi, pc, ls, st, h) => match dk_find (dk_code mi) pc with
    | none => none
    | some en => if mi = dk_law ∧ pc = dk_head then (match h.2.2.1 with
        | .inr g => if dk_allLaid g h.2.2.2.1 = true ∧ st = [] ∧ ls = dk_LS then some (h, .inl none) else none
        | .inl _ => none)
      else if dk_ok15 st = true then dk_step 0 dk_On (dk_cut n) kr mi pc en ls st h else none
def dk_ckh (h : dkH) : Bool := let m := h.1
  h.2.2.2.2 == 0 && (List.range 16).all (fun p => m (2, p, 0) 0 == cI p && m (2, p, 0) 3 == cI 0 && m (2, p, 0) 4 == cI 0 && m (2, p, 0) 5 == cI 0 && m (2, p, 0) 7 == cI 9 && m (3, p, 0) 0 == cI 0 && m (3, p, 0) 1 == cI 0 && m (3, p, 0) 2 == cJ 0 && m (16, 2, 0) p == cI 0 && m (13, 10, 0) p == cI 0 && m (13, 15, 0) p == cI 0 && m (13, 6, 0) p == cI 9 && m (13, 3, 0) p == cI 0 && m (13, 4, 0) p == cI 0 && m (13, 5, 0) p == cJ 0 &&
    (List.range 4).all (fun g => m (5, p, g) 0 == cI 0 && m (5, p, g) 1 == cI 0 && m (5, p, g) 2 == cI 0 && m (5, p, g) 3 == cI 0)) &&
  (List.range 64).all (fun i => m (13, 11, 0) i == cI 0 && m (13, 12, 0) i == cI 0 && m (13, 13, 0) i == cI 0 && m (16, 14, 0) i == cI 0) &&
  (List.range 8).all (fun c => m (7, c, 0) 3 == cI 0 && m (13, 23, 0) c == cI 0) &&
  m (9, 0, 0) 5 == cI 0 && m (0, 0, 0) 4 == cI 0 && m (0, 0, 0) 5 == cI 0 && m (12, 0, 0) 26 == cI 0 && m (12, 0, 0) 1 == cI 0
def dk_hz : dkH := (fun _ _ => 0, 0, .inr (fun _ _ => false), 0, 0)
def dk_go : Bool := match dk_cut 8000 (fun _ => none) (104, 0, [(0, vR (15, 0, 0))], [], dk_hz) with
  | some (h, .inl none) => dk_ckh h
  | _ => false
/-- the same heap with another script -/
def dk_ag (xs : Nat → Int32) (m m' : dkM) : Prop := ∀ a f, m' a f = if a.1 = 15 then xs f else m a f
theorem dk_ag_up {xs : Nat → Int32} {m m' : dkM} (h : dk_ag xs m m') {a : dkI} (ha : a.1 ≠ 15) (f : Nat) (x : Int32) : dk_ag xs (dk_up m a f x) (dk_up m' a f x) := fun b g => by
  by_cases e : b = a ∧ g = f
  · rw [dk_up, if_pos e, dk_up, if_pos e, e.1, if_neg ha]
  · rw [dk_up, if_neg e, dk_up, if_neg e]; exact h b g
theorem dk_ag_rd {xs : Nat → Int32} {m m' : dkM} (h : dk_ag xs m m') {a : dkI} (ha : a.1 ≠ 15) (f : Nat) : m' a f = m a f := by
  rw [h a f, if_neg ha]
theorem dk_len_ne {L : Nat} {a : dkI} (ha : a.1 ≠ 15) : dk_len L a = dk_len 0 a := by
  obtain ⟨k, i, j⟩ := a
  unfold dk_len
  dsimp only
  split <;> first | rfl | exact absurd rfl ha
theorem dk_sch_ne {n : Nat} {a : dkI} (h : dk_sch[n]? = some a) : a.1 ≠ 15 := by
  have hall : dk_sch.all (fun a => a.1 != 15) = true := by decide +kernel
  have := List.all_eq_true.1 hall a (List.mem_of_getElem? h)
  simpa using this
theorem dk_ok_1 {a : dkI} {r : List dkV} (h : dk_ok15 (.inr (.inl a) :: r) = true) : a.1 ≠ 15 := by
  simp [dk_ok15] at h
  exact h.1
theorem dk_ok_2 {v : dkV} {a : dkI} {r : List dkV} (h : dk_ok15 (v :: .inr (.inl a) :: r) = true) : a.1 ≠ 15 := by
  simp [dk_ok15] at h
  exact h.2.1
theorem dk_ok_3 {v w : dkV} {a : dkI} {r : List dkV} (h : dk_ok15 (v :: w :: .inr (.inl a) :: r) = true) : a.1 ≠ 15 := by
  simp [dk_ok15] at h
  exact h.2.2.1
set_option maxHeartbeats 4000000 in
/-- with no reference of the script on the stack its length is not asked -/
theorem dk_step_L {L : Nat} {O : Nat → List dkV → dkH → dkR} {go : (dkY → dkR) → dkS → dkR} {kr : dkY → dkR} {mi pc : Nat} {en : dkE} {ls : dkL} {st : List dkV} {h : dkH} (hst : dk_ok15 st = true) : dk_step L O go kr mi pc en ls st h = dk_step 0 O go kr mi pc en ls st h := by
  obtain ⟨ins, len, tg, sw⟩ := en
  unfold dk_step
  cases ins <;> dsimp only <;> (try rfl)
  all_goals (split <;> (try rfl))
  all_goals first
    | (rw [dk_len_ne (dk_ok_2 hst)]; done)
    | (rw [dk_len_ne (dk_ok_3 hst)]; done)
    | skip
  all_goals first
    | (rw [if_neg (dk_ok_1 hst), if_neg (dk_ok_1 hst)]; done)
    | skip
  all_goals (split <;> (try rfl))
  all_goals (rename_i hs; rw [dk_len_ne (dk_sch_ne hs)])
section
variable {R : dkR → dkR → Prop} (h0 : ∀ b, R none b) {xs : Nat → Int32} {go go' : (dkY → dkR) → dkS → dkR} {kr kr' : dkY → dkR} {mi : Nat}
theorem dk_hp_after (h0 : ∀ b, R none b) (hg : ∀ (pc : Nat) (ls : dkL) (st : List dkV) (m m' : dkM) (t : Int64 × dkF × Nat × Nat), dk_ag xs m m' → R (go kr (mi, pc, ls, st, (m, t))) (go' kr' (mi, pc, ls, st, (m', t)))) (hk : ∀ (m m' : dkM) (t : Int64 × dkF × Nat × Nat) (o : dkO), dk_ag xs m m' → R (kr ((m, t), o)) (kr' ((m', t), o))) (pc : Nat) (ls : dkL) (rest : List dkV) (m m' : dkM) (t : Int64 × dkF × Nat × Nat) (o : dkO) (ha : dk_ag xs m m') : R (dk_after go kr mi pc ls rest ((m, t), o)) (dk_after go' kr' mi pc ls rest ((m', t), o)) := by
  unfold dk_after
  dsimp only
  split
  · exact hg _ _ _ _ _ _ ha
  · exact hg _ _ _ _ _ _ ha
  · split
    · exact hg _ _ _ _ _ _ ha
    · split
      · exact hk _ _ _ _ ha
      · exact h0 _
theorem dk_hp_call (h0 : ∀ b, R none b) (hg : ∀ (pc : Nat) (ls : dkL) (st : List dkV) (m m' : dkM) (t : Int64 × dkF × Nat × Nat), dk_ag xs m m' → R (go kr (mi, pc, ls, st, (m, t))) (go' kr' (mi, pc, ls, st, (m', t)))) (hk : ∀ (m m' : dkM) (t : Int64 × dkF × Nat × Nat) (o : dkO), dk_ag xs m m' → R (kr ((m, t), o)) (kr' ((m', t), o))) (hj : ∀ (kr kr' : dkY → dkR) (j pc : Nat) (ls : dkL) (st : List dkV) (m m' : dkM) (t : Int64 × dkF × Nat × Nat), j < mi → (∀ (m m' : dkM) (t : Int64 × dkF × Nat × Nat) (o : dkO), dk_ag xs m m' → R (kr ((m, t), o)) (kr' ((m', t), o))) → dk_ag xs m m' → R (go kr (j, pc, ls, st, (m, t))) (go' kr' (j, pc, ls, st, (m', t)))) {O : Nat → List dkV → dkH → dkR} (pc : Nat) (ls : dkL) (st : List dkV) (m m' : dkM) (t : Int64 × dkF × Nat × Nat) (ha : dk_ag xs m m') (kd0 : Nat) (c : Nat × Nat × Nat × Nat × Bool) : R (dk_call dk_On go kr mi pc ls st (m, t) kd0 c) (dk_call O go' kr' mi pc ls st (m', t) kd0 c) := by
  unfold dk_call
  split
  · split
    · rename_i hc
      exact hj _ _ _ _ _ _ _ _ _ hc.1 (fun m m' t o ha => dk_hp_after h0 hg hk pc ls _ m m' t o ha) ha
    · exact h0 _
  · split
    · exact h0 _
    · exact h0 _
  · split
    · split
      · exact hg _ _ _ _ _ _ ha
      · exact h0 _
    · exact h0 _
  · split
    · split
      · split <;> exact hg _ _ _ _ _ _ ha
      · exact h0 _
    · exact h0 _
  · split
    · split
      · split <;> exact hg _ _ _ _ _ _ ha
      · exact h0 _
    · exact h0 _
  · exact h0 _
set_option maxHeartbeats 4000000 in
theorem dk_hp_step (h0 : ∀ b, R none b) (hg : ∀ (pc : Nat) (ls : dkL) (st : List dkV) (m m' : dkM) (t : Int64 × dkF × Nat × Nat), dk_ag xs m m' → R (go kr (mi, pc, ls, st, (m, t))) (go' kr' (mi, pc, ls, st, (m', t)))) (hk : ∀ (m m' : dkM) (t : Int64 × dkF × Nat × Nat) (o : dkO), dk_ag xs m m' → R (kr ((m, t), o)) (kr' ((m', t), o))) (hj : ∀ (kr kr' : dkY → dkR) (j pc : Nat) (ls : dkL) (st : List dkV) (m m' : dkM) (t : Int64 × dkF × Nat × Nat), j < mi → (∀ (m m' : dkM) (t : Int64 × dkF × Nat × Nat) (o : dkO), dk_ag xs m m' → R (kr ((m, t), o)) (kr' ((m', t), o))) → dk_ag xs m m' → R (go kr (j, pc, ls, st, (m, t))) (go' kr' (j, pc, ls, st, (m', t)))) {L : Nat} {O : Nat → List dkV → dkH → dkR} (pc : Nat) (en : dkE) (ls : dkL) (st : List dkV) (m m' : dkM) (t : Int64 × dkF × Nat × Nat) (ha : dk_ag xs m m') (hst : dk_ok15 st = true) : R (dk_step 0 dk_On go kr mi pc en ls st (m, t)) (dk_step L O go' kr' mi pc en ls st (m', t)) := by
  rw [dk_step_L (L := L) hst]
  obtain ⟨ins, len, tg, sw⟩ := en
  have hs := fun (pc : Nat) (ls : dkL) (st : List dkV) (t : Int64 × dkF × Nat × Nat) => hg pc ls st m m' t ha
  have hr1 : ∀ (pc : Nat) (ls : dkL) (r : List dkV) (a : dkI) (f : Nat), a.1 ≠ 15 → R (go kr (mi, pc, ls, vI (m a f) :: r, (m, t))) (go' kr' (mi, pc, ls, vI (m' a f) :: r, (m', t))) := fun pc ls r a f h => by
    rw [dk_ag_rd ha h f]; exact hs _ _ _ _
  have hu := fun (pc : Nat) (ls : dkL) (r : List dkV) (a : dkI) (f : Nat) (x : Int32) (h : a.1 ≠ 15) => hg pc ls r _ _ t (dk_ag_up ha h f x)
  unfold dk_step
  cases ins <;> dsimp only <;> (try exact h0 _) <;> (try exact hs _ _ _ _) <;> (repeat' (first | exact h0 _ | exact hs _ _ _ _ | exact hk _ _ _ _ ha | exact dk_hp_call h0 hg hk hj _ _ _ _ _ _ ha _ _ | exact dk_cond_rel _ _ _ (hs _ _ _ _) (hs _ _ _ _) | exact dk_sw_rel (fun _ => hs _ _ _ _) _ _ _ | exact hr1 _ _ _ _ _ (dk_ok_1 hst) | exact hr1 _ _ _ _ _ (dk_ok_2 hst) | exact hu _ _ _ _ _ _ (dk_ok_2 hst) | exact hu _ _ _ _ _ _ (dk_ok_3 hst) | split))
end
/-- the run of the law up to its loop's head, for every script -/
theorem dk_cut_rel {L K : Nat} {O : Nat → List dkV → dkH → dkR} {xs : Nat → Int32} : ∀ (n : Nat) (kr kr' : dkY → dkR) (mi pc : Nat) (ls : dkL) (st : List dkV) (m m' : dkM) (t : Int64 × dkF × Nat × Nat), mi ≤ 104 → (mi = 104 → kr' = some) → (∀ (m m' : dkM) (t : Int64 × dkF × Nat × Nat) (o : dkO), dk_ag xs m m' → ∀ h1, kr ((m, t), o) = some (h1, .inl none) → ∃ k, K ≤ k ∧ kr' ((m', t), o) = dk_run L O k some (104, 23, dk_LS, [], (fun a f => if a.1 = 15 then xs f else h1.1 a f, h1.2.1, .inl (), h1.2.2.2))) → dk_ag xs m m' → ∀ h1, dk_cut n kr (mi, pc, ls, st, (m, t)) = some (h1, .inl none) → ∃ k, K ≤ k ∧ dk_run L O (n + K) kr' (mi, pc, ls, st, (m', t)) = dk_run L O k some (104, 23, dk_LS, [], (fun a f => if a.1 = 15 then xs f else h1.1 a f, h1.2.1, .inl (), h1.2.2.2))
  | 0, _, _, _, _, _, _, _, _, _, _, _, _, _, h1, h => by cases h
  | n + 1, kr, kr', mi, pc, ls, st, m, m', t, hmi, h104, hk, ha, h1, h => by
    have e1 : n + 1 + K = (n + K) + 1 := by omega
    rw [e1]
    unfold dk_cut at h
    rw [dk_run]
    cases hf : dk_find (dk_code mi) pc with
    | none => rw [hf] at h; cases h
    | some en =>
      rw [hf] at h
      dsimp only at h ⊢
      by_cases hc : mi = dk_law ∧ pc = dk_head
      · rw [if_pos hc] at h ⊢
        obtain ⟨hmi1, hpc⟩ := hc
        obtain ⟨t1, t2, t3⟩ := t
        dsimp only at h ⊢
        cases t2 with
        | inl u => cases h
        | inr g =>
          dsimp only at h ⊢
          by_cases hl : dk_allLaid g t3.1 = true ∧ st = [] ∧ ls = dk_LS
          · rw [if_pos hl] at h
            rw [if_pos hl.1]
            obtain ⟨hl1, rfl, rfl⟩ := hl
            cases h
            have hkr := h104 hmi1
            subst hkr
            subst hmi1
            subst hpc
            refine ⟨n + K, by omega, ?_⟩
            have : m' = fun a f => if a.1 = 15 then xs f else m a f := funext fun a => funext fun f => ha a f
            rw [this]
            rfl
          · rw [if_neg hl] at h; cases h
      · rw [if_neg hc] at h ⊢
        by_cases hst : dk_ok15 st = true
        · rw [if_pos hst] at h
          refine dk_hp_step (R := fun a b => ∀ h1, a = some (h1, .inl none) → ∃ k, K ≤ k ∧ b = dk_run L O k some (104, 23, dk_LS, [], (fun a f => if a.1 = 15 then xs f else h1.1 a f, h1.2.1, .inl (), h1.2.2.2))) (xs := xs) (go := dk_cut n) (go' := dk_run L O (n + K)) (fun b h1 hh => by cases hh) (fun pc ls st m m' t ha => dk_cut_rel n kr kr' mi pc ls st m m' t hmi h104 hk ha) hk (fun kr kr' j pc ls st m m' t hj hk ha => dk_cut_rel n kr kr' j pc ls st m m' t (by omega) (fun e => by omega) hk ha) pc en ls st m m' t ha hst h1 h
        · rw [if_neg hst] at h; cases h
theorem dk_go_t : dk_go = true := by decide +kernel
/-- the state at the head -/
theorem dk_head_at : ∃ h1 : dkH, dk_cut 8000 (fun _ => none) (104, 0, [(0, vR (15, 0, 0))], [], dk_hz) = some (h1, .inl none) ∧ dk_ckh h1 = true := by
  have h := dk_go_t
  unfold dk_go at h
  split at h
  · rename_i h1 e
    exact ⟨h1, e, h⟩
  · cases h
