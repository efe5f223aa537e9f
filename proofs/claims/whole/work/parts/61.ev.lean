/-! fewer locals, the same end; runs in pieces; calls -/
def dk_noL (ls : dkL) : Prop := ∀ e ∈ ls, dk_isL e.2 = false
def dk_le (ls ls' : dkL) : Prop := (∀ k v, dk_get ls k = some v → dk_get ls' k = some v) ∧ dk_noL ls ∧ dk_noL ls'
theorem dk_get_filter (f : Nat × dkV → Bool) (k : Nat) : ∀ (ls : dkL), (∀ e ∈ ls, e.1 = k → f e = true) → dk_get (ls.filter f) k = dk_get ls k
  | [], _ => rfl
  | e :: r, h => by
    have ih := dk_get_filter f k r (fun e he => h e (List.mem_cons_of_mem _ he))
    by_cases hf : f e = true
    · rw [List.filter_cons_of_pos hf]
      simp only [dk_get]
      rw [ih]
    · rw [List.filter_cons_of_neg hf, ih]
      have : e.1 ≠ k := fun hk => hf (h e List.mem_cons_self hk)
      simp only [dk_get, if_neg this]
theorem dk_get_filter_none (f : Nat × dkV → Bool) (k : Nat) : ∀ (ls : dkL), (∀ e ∈ ls, e.1 = k → f e = false) → dk_get (ls.filter f) k = none
  | [], _ => rfl
  | e :: r, h => by
    have ih := dk_get_filter_none f k r (fun e he => h e (List.mem_cons_of_mem _ he))
    by_cases hf : f e = true
    · rw [List.filter_cons_of_pos hf]
      have : e.1 ≠ k := fun hk => by rw [h e List.mem_cons_self hk] at hf; cases hf
      simp only [dk_get, if_neg this]
      exact ih
    · rw [List.filter_cons_of_neg hf, ih]
theorem dk_get_del {ls : dkL} (hn : dk_noL ls) (k i : Nat) : dk_get (dk_del ls k) i = if i = k then none else dk_get ls i := by
  unfold dk_del
  split
  · rename_i e; subst e
    exact dk_get_filter_none _ _ _ (fun e _ he => by simp [he])
  · rename_i e
    exact dk_get_filter _ _ _ (fun q hq he => by
      have h1 := hn q hq
      simp [h1, he, e])
theorem dk_noL_filter {ls : dkL} (h : dk_noL ls) (f : Nat × dkV → Bool) : dk_noL (ls.filter f) := fun e he => h e (List.mem_filter.mp he).1
theorem dk_le_del {ls ls' : dkL} (h : dk_le ls ls') (k : Nat) : dk_le (dk_del ls k) (dk_del ls' k) := by
  refine ⟨fun i v => ?_, dk_noL_filter h.2.1 _, dk_noL_filter h.2.2 _⟩
  rw [dk_get_del h.2.1, dk_get_del h.2.2]
  split
  · exact fun h => h
  · exact h.1 i v
theorem dk_le_set {ls ls' : dkL} (h : dk_le ls ls') (k : Nat) {v : dkV} (hv : dk_isL v = false) : dk_le (dk_set ls k v) (dk_set ls' k v) := by
  have hd := dk_le_del h k
  have e1 : dk_set ls k v = (k, v) :: dk_del ls k := rfl
  have e2 : dk_set ls' k v = (k, v) :: dk_del ls' k := rfl
  rw [e1, e2]
  refine ⟨fun i w => ?_, ?_, ?_⟩
  · simp only [dk_get]
    split
    · exact fun h => h
    · exact hd.1 i w
  · intro e he
    rcases List.mem_cons.mp he with rfl | he
    · exact hv
    · exact hd.2.1 e he
  · intro e he
    rcases List.mem_cons.mp he with rfl | he
    · exact hv
    · exact hd.2.2 e he
def dk_Im (a b : dkR) : Prop := ∀ r, a = some r → b = some r
theorem dk_Im0 (b : dkR) : dk_Im none b := fun _ h => by cases h
theorem dk_ls_after {go : (dkY → dkR) → dkS → dkR} {kr kr' : dkY → dkR} {mi pc : Nat} {ls ls' : dkL} (hgo : ∀ (kr kr' : dkY → dkR) (m pc : Nat) (ls ls' : dkL) (st : List dkV) (h : dkH), (∀ y, dk_Im (kr y) (kr' y)) → dk_le ls ls' → dk_Im (go kr (m, pc, ls, st, h)) (go kr' (m, pc, ls', st, h))) (hk : ∀ y, dk_Im (kr y) (kr' y)) (hle : dk_le ls ls') (rest : List dkV) (y : dkY) : dk_Im (dk_after go kr mi pc ls rest y) (dk_after go kr' mi pc ls' rest y) := by
  unfold dk_after
  split
  · exact hgo _ _ _ _ _ _ _ _ hk hle
  · exact hgo _ _ _ _ _ _ _ _ hk hle
  · split
    · exact hgo _ _ _ _ _ _ _ _ hk (dk_le_del hle _)
    · split
      · exact hk _
      · exact dk_Im0 _
theorem dk_noL_args : ∀ (ss : List Nat) (vs : List dkV) (i : Nat), dk_argok ss vs = true → dk_noL (dk_args i vs)
  | [], [], _, _ => fun e he => by cases he
  | [], _ :: _, _, h => by simp [dk_argok] at h
  | _ :: _, [], _, h => by simp [dk_argok] at h
  | s :: ss, v :: vs, i, h => by
    simp only [dk_argok, Bool.and_eq_true] at h
    intro e he
    rcases List.mem_cons.mp he with rfl | he
    · have h1 := h.1
      unfold dk_argk at h1
      rcases v with x | a | y
      · rfl
      · rfl
      · simp at h1
    · exact dk_noL_args ss vs (i + 1) h.2 e he
theorem dk_le_refl {ls : dkL} (h : dk_noL ls) : dk_le ls ls := ⟨fun _ _ h => h, h, h⟩
theorem dk_ls_call {O : Nat → List dkV → dkH → dkR} {go : (dkY → dkR) → dkS → dkR} {kr kr' : dkY → dkR} {mi pc : Nat} {ls ls' : dkL} (hgo : ∀ (kr kr' : dkY → dkR) (m pc : Nat) (ls ls' : dkL) (st : List dkV) (h : dkH), (∀ y, dk_Im (kr y) (kr' y)) → dk_le ls ls' → dk_Im (go kr (m, pc, ls, st, h)) (go kr' (m, pc, ls', st, h))) (hk : ∀ y, dk_Im (kr y) (kr' y)) (hle : dk_le ls ls') (st : List dkV) (h : dkH) (kd0 : Nat) (c : Nat × Nat × Nat × Nat × Bool) : dk_Im (dk_call O go kr mi pc ls st h kd0 c) (dk_call O go kr' mi pc ls' st h kd0 c) := by
  unfold dk_call
  split
  · split
    · rename_i hc
      exact hgo _ _ _ _ _ _ _ _ (fun y => dk_ls_after hgo hk hle _ y) (dk_le_refl (dk_noL_args _ _ _ hc.2.2.2))
    · exact dk_Im0 _
  · split
    · split
      · exact dk_ls_after hgo hk hle _ _
      · exact dk_Im0 _
    · exact dk_Im0 _
  · split
    · split
      · exact hgo _ _ _ _ _ _ _ _ hk hle
      · exact dk_Im0 _
    · exact dk_Im0 _
  · split
    · split
      · split <;> exact hgo _ _ _ _ _ _ _ _ hk hle
      · exact dk_Im0 _
    · exact dk_Im0 _
  · split
    · split
      · split <;> exact hgo _ _ _ _ _ _ _ _ hk hle
      · exact dk_Im0 _
    · exact dk_Im0 _
  · exact dk_Im0 _
set_option maxHeartbeats 4000000 in
theorem dk_ls_step {L : Nat} {O : Nat → List dkV → dkH → dkR} {go : (dkY → dkR) → dkS → dkR} {kr kr' : dkY → dkR} {mi pc : Nat} {ls ls' : dkL} (hgo : ∀ (kr kr' : dkY → dkR) (m pc : Nat) (ls ls' : dkL) (st : List dkV) (h : dkH), (∀ y, dk_Im (kr y) (kr' y)) → dk_le ls ls' → dk_Im (go kr (m, pc, ls, st, h)) (go kr' (m, pc, ls', st, h))) (hk : ∀ y, dk_Im (kr y) (kr' y)) (hle : dk_le ls ls') (en : dkE) (st : List dkV) (h : dkH) : dk_Im (dk_step L O go kr mi pc en ls st h) (dk_step L O go kr' mi pc en ls' st h) := by
  obtain ⟨ins, len, tg, sw⟩ := en
  have hg := fun (pc : Nat) (st : List dkV) (h : dkH) => hgo kr kr' mi pc ls ls' st h hk hle
  have hset := fun (pc k : Nat) (x : Int32) (st : List dkV) (h : dkH) => hgo kr kr' mi pc _ _ st h hk (dk_le_set hle k (v := vI x) rfl)
  have hsetR := fun (pc k : Nat) (x : dkI) (st : List dkV) (h : dkH) => hgo kr kr' mi pc _ _ st h hk (dk_le_set hle k (v := vR x) rfl)
  unfold dk_step
  cases ins <;> dsimp only <;> (try exact dk_Im0 _) <;> (try exact hg _ _ _) <;> (repeat' (first | exact dk_Im0 _ | exact hk _ | exact hg _ _ _ | exact hset _ _ _ _ _ | exact hsetR _ _ _ _ _ | exact dk_ls_call hgo hk hle _ _ _ _ | exact dk_cond_rel _ _ _ (hg _ _ _) (hg _ _ _) | exact dk_sw_rel (fun _ => hg _ _ _) _ _ _ | (rw [hle.1 _ _ ‹dk_get ls _ = some _›]) | split))
theorem dk_ls_run {L : Nat} {O : Nat → List dkV → dkH → dkR} : ∀ (n : Nat) (kr kr' : dkY → dkR) (mi pc : Nat) (ls ls' : dkL) (st : List dkV) (h : dkH), (∀ y, dk_Im (kr y) (kr' y)) → dk_le ls ls' → dk_Im (dk_run L O n kr (mi, pc, ls, st, h)) (dk_run L O n kr' (mi, pc, ls', st, h))
  | 0, _, _, _, _, _, _, _, _, _, _ => dk_Im0 _
  | n + 1, kr, kr', mi, pc, ls, ls', st, h, hk, hle => by
    have hgo := dk_ls_run (L := L) (O := O) n
    unfold dk_run
    split
    · exact dk_Im0 _
    · split
      · split
        · split
          · exact hgo _ _ _ _ _ _ _ _ hk hle
          · exact dk_Im0 _
        · exact dk_ls_step hgo hk hle _ _ _
      · exact dk_ls_step hgo hk hle _ _ _
/-- few locals in many -/
def dk_Sub : dkL → dkL → Prop
  | [], _ => True
  | e :: r, ls' => dk_get ls' e.1 = some e.2 ∧ dk_isL e.2 = false ∧ dk_Sub r ls'
def dk_nol : dkL → Bool
  | [] => true
  | e :: r => !dk_isL e.2 && dk_nol r
theorem dk_nol_of : ∀ {ls : dkL}, dk_nol ls = true → dk_noL ls
  | [], _ => fun e he => by cases he
  | e :: r, h => by
    simp only [dk_nol, Bool.and_eq_true, Bool.not_eq_true'] at h
    intro q hq
    rcases List.mem_cons.mp hq with rfl | hq
    · exact h.1
    · exact dk_nol_of h.2 q hq
theorem dk_Sub_le : ∀ {ls ls' : dkL}, dk_Sub ls ls' → (∀ k v, dk_get ls k = some v → dk_get ls' k = some v) ∧ dk_noL ls
  | [], _, _ => ⟨fun _ _ h => (by cases h), fun e he => (by cases he)⟩
  | e :: r, ls', h => by
    have ih := dk_Sub_le h.2.2
    refine ⟨fun k v hk => ?_, fun q hq => ?_⟩
    · simp only [dk_get] at hk
      split at hk
      · rename_i he; cases hk; rw [← he]; exact h.1
      · exact ih.1 k v hk
    · rcases List.mem_cons.mp hq with rfl | hq
      · exact h.2.1
      · exact ih.2 q hq
/-! a run in pieces -/
def dk_Ex (F : Nat → dkR) (y : dkY) : Prop := ∃ n0, ∀ n, n0 ≤ n → F n = some y
theorem dk_ex_some {y : dkY} : dk_Ex (fun _ => some y) y := ⟨0, fun _ _ => rfl⟩
theorem dk_ex_run {L : Nat} {s : dkS} {y : dkY} {r : Nat} (e : dk_Ev L s y) : dk_Ex (fun n => dk_run L (dk_OX L) (n + r) some s) y := by
  obtain ⟨n, hn⟩ := e
  exact ⟨n, fun k hk => dk_run_mono (Nat.le_trans hk (Nat.le_add_right _ _)) hn⟩
theorem dk_ev_seg {L : Nat} {mi pc : Nat} {ls ls' : dkL} {st : List dkV} {h : dkH} {y : dkY} {c : Nat} {F : Nat → dkR} (hF : ∀ n, dk_run L (dk_OX L) (n + c) some (mi, pc, ls, st, h) = F n) (hs : dk_Sub ls ls') (hn : dk_nol ls' = true) (hx : dk_Ex F y) : dk_Ev L (mi, pc, ls', st, h) y := by
  obtain ⟨n, hx⟩ := hx
  have h1 := dk_Sub_le hs
  exact ⟨n + c, dk_ls_run _ _ _ _ _ _ _ _ _ (fun _ _ h => h) ⟨h1.1, h1.2, dk_nol_of hn⟩ _ ((hF n).trans (hx n (Nat.le_refl _)))⟩
/-- a call: what comes after it, for each end of the callee -/
theorem dk_ev_call {L mi pc : Nat} {ls : dkL} {st : List dkV} {h : dkH} {y y1 : dkY} {en : dkE} {md callee n kd : Nat} {b : Bool} (hf : dk_find (dk_code mi) pc = some en) (hs : ∀ O go kr, dk_step L O go kr mi pc en ls st h = dk_call O go kr mi pc ls st h kd (md, callee, n, kd, b)) (hnl : ¬ (mi = dk_law ∧ pc = dk_head)) (hmd : md = 0 ∨ md = 1) (hcal : callee < 105) (hc : callee < mi ∧ kd = kd ∧ (st.drop n).length ≤ 4 ∧ dk_argok (dk_sig callee) (st.take n).reverse = true) (hy : dk_Ev L (callee, 0, dk_args 0 (st.take n).reverse, [], h) y1) (ha : dk_Ex (fun k => dk_after (dk_run L (dk_OX L) k) some mi pc ls (st.drop n) y1) y) : dk_Ev L (mi, pc, ls, st, h) y := by
  obtain ⟨n1, h1⟩ := id hy
  obtain ⟨n2, h2⟩ := ha
  refine ⟨max n1 n2 + 1, ?_⟩
  rw [dk_run, hf]
  dsimp only
  rw [if_neg hnl, hs]
  rcases hmd with rfl | rfl
  · simp only [dk_call]
    rw [if_pos ⟨hc.1, trivial, hc.2.2⟩, dk_run_bind, dk_run_mono (Nat.le_max_left n1 n2) h1]
    exact h2 _ (Nat.le_max_right n1 n2)
  · simp only [dk_call]
    rw [if_pos ⟨hc.1, trivial, hc.2.2⟩, dk_OX_of hcal hy]
    exact h2 _ (Nat.le_max_right n1 n2)
