/-! the small machine's own laws: two runs side by side, more fuel, what comes after, the oracle that answers as the runs do -/
theorem dk_cond_rel {R : dkR → dkR → Prop} (c : ClassFile.Cond) (x y : Int32) {t f t' f' : dkR} (ht : R t t') (hf : R f f') : R (dk_cond c x y t f) (dk_cond c x y t' f') := by
  cases c <;> simp only [dk_cond] <;> split <;> assumption
theorem dk_sw_rel {R : dkR → dkR → Prop} {k k' : Nat → dkR} (hk : ∀ t, R (k t) (k' t)) (d : Nat) (x : Int32) : ∀ sw, R (dk_sw k d x sw) (dk_sw k' d x sw)
  | [] => hk d
  | q :: r => by
    simp only [dk_sw]
    split
    · exact hk _
    · exact dk_sw_rel hk d x r
theorem dk_after_rel {R : dkR → dkR → Prop} (h0 : R none none) {go go' : (dkY → dkR) → dkS → dkR} {kr kr' : dkY → dkR} {mi : Nat} (hgo : ∀ (kr kr' : dkY → dkR) (s : dkS), s.1 ≤ mi → (∀ y, R (kr y) (kr' y)) → R (go kr s) (go' kr' s)) (hk : ∀ y, R (kr y) (kr' y)) (pc : Nat) (ls : dkL) (rest : List dkV) (y : dkY) : R (dk_after go kr mi pc ls rest y) (dk_after go' kr' mi pc ls rest y) := by
  unfold dk_after
  split
  · exact hgo _ _ _ (Nat.le_refl _) hk
  · exact hgo _ _ _ (Nat.le_refl _) hk
  · split
    · exact hgo _ _ _ (Nat.le_refl _) hk
    · split
      · exact hk _
      · exact h0
theorem dk_call_rel {R : dkR → dkR → Prop} (h0 : R none none) {go go' : (dkY → dkR) → dkS → dkR} {kr kr' : dkY → dkR} {mi : Nat} (hgo : ∀ (kr kr' : dkY → dkR) (s : dkS), s.1 ≤ mi → (∀ y, R (kr y) (kr' y)) → R (go kr s) (go' kr' s)) (hk : ∀ y, R (kr y) (kr' y)) {O O' : Nat → List dkV → dkH → dkR} (hO : ∀ j, j < mi → O j = O' j) (pc : Nat) (ls : dkL) (st : List dkV) (h : dkH) (kd0 : Nat) (c : Nat × Nat × Nat × Nat × Bool) : R (dk_call O go kr mi pc ls st h kd0 c) (dk_call O' go' kr' mi pc ls st h kd0 c) := by
  unfold dk_call
  split
  · split
    · rename_i hc
      exact hgo _ _ _ (Nat.le_of_lt hc.1) (fun y => dk_after_rel h0 hgo hk pc ls _ y)
    · exact h0
  · split
    · rename_i hc
      rw [hO _ hc.1]
      split
      · exact dk_after_rel h0 hgo hk pc ls _ _
      · exact h0
    · exact h0
  · split
    · split
      · exact hgo _ _ _ (Nat.le_refl _) hk
      · exact h0
    · exact h0
  · split
    · split
      · split <;> exact hgo _ _ _ (Nat.le_refl _) hk
      · exact h0
    · exact h0
  · split
    · split
      · split <;> exact hgo _ _ _ (Nat.le_refl _) hk
      · exact h0
    · exact h0
  · exact h0
set_option maxHeartbeats 4000000 in
theorem dk_step_rel {R : dkR → dkR → Prop} (h0 : R none none) {go go' : (dkY → dkR) → dkS → dkR} {kr kr' : dkY → dkR} {mi : Nat} (hgo : ∀ (kr kr' : dkY → dkR) (s : dkS), s.1 ≤ mi → (∀ y, R (kr y) (kr' y)) → R (go kr s) (go' kr' s)) (hk : ∀ y, R (kr y) (kr' y)) {L : Nat} {O O' : Nat → List dkV → dkH → dkR} (hO : ∀ j, j < mi → O j = O' j) (pc : Nat) (en : dkE) (ls : dkL) (st : List dkV) (h : dkH) : R (dk_step L O go kr mi pc en ls st h) (dk_step L O' go' kr' mi pc en ls st h) := by
  obtain ⟨ins, len, tg, sw⟩ := en
  have hg := fun (pc : Nat) (ls : dkL) (st : List dkV) (h : dkH) => hgo kr kr' (mi, pc, ls, st, h) (Nat.le_refl _) hk
  unfold dk_step
  cases ins <;> dsimp only <;> (try exact h0) <;> (try exact hg _ _ _ _) <;> (repeat' (first | exact h0 | exact hk _ | exact hg _ _ _ _ | exact dk_call_rel h0 hgo hk hO _ _ _ _ _ _ | exact dk_cond_rel _ _ _ (hg _ _ _ _) (hg _ _ _ _) | exact dk_sw_rel (fun _ => hg _ _ _ _) _ _ _ | split))
theorem dk_run_rel {R : dkR → dkR → Prop} (h0 : R none none) {L : Nat} {O O' : Nat → List dkV → dkH → dkR} : ∀ (n : Nat) (kr kr' : dkY → dkR) (s : dkS), (∀ j, j < s.1 → O j = O' j) → (∀ y, R (kr y) (kr' y)) → R (dk_run L O n kr s) (dk_run L O' n kr' s)
  | 0, _, _, (_, _, _, _, _), _, _ => h0
  | n + 1, kr, kr', (mi, pc, ls, st, h), hO, hk => by
    have hgo : ∀ (kr kr' : dkY → dkR) (s : dkS), s.1 ≤ mi → (∀ y, R (kr y) (kr' y)) → R (dk_run L O n kr s) (dk_run L O' n kr' s) := fun kr kr' s hs hk => dk_run_rel h0 n kr kr' s (fun j hj => hO j (Nat.lt_of_lt_of_le hj hs)) hk
    unfold dk_run
    split
    · exact h0
    · split
      · split
        · split
          · exact hgo _ _ _ (Nat.le_refl _) hk
          · exact h0
        · exact dk_step_rel h0 hgo hk hO _ _ _ _ _
      · exact dk_step_rel h0 hgo hk hO _ _ _ _ _
/-- the end is handed on -/
theorem dk_run_bind {L : Nat} {O : Nat → List dkV → dkH → dkR} (n : Nat) (kr : dkY → dkR) (s : dkS) : dk_run L O n kr s = (dk_run L O n some s).bind kr :=
  dk_run_rel (R := fun a b => a = b.bind kr) rfl n kr some s (fun _ _ => rfl) (fun _ => rfl)
/-- more fuel, the same end -/
theorem dk_run_mono1 {L : Nat} {O : Nat → List dkV → dkH → dkR} : ∀ (n : Nat) (kr kr' : dkY → dkR) (s : dkS), (∀ y r, kr y = some r → kr' y = some r) → ∀ r, dk_run L O n kr s = some r → dk_run L O (n + 1) kr' s = some r
  | 0, _, _, (_, _, _, _, _), _, r, h => by cases h
  | n + 1, kr, kr', (mi, pc, ls, st, h), hk, r, hr => by
    have hgo : ∀ (kr kr' : dkY → dkR) (s : dkS), s.1 ≤ mi → (∀ y r, kr y = some r → kr' y = some r) → ∀ r, dk_run L O n kr s = some r → dk_run L O (n + 1) kr' s = some r := fun kr kr' s _ hk => dk_run_mono1 n kr kr' s hk
    have hst : ∀ en, ∀ r, dk_step L O (dk_run L O n) kr mi pc en ls st h = some r → dk_step L O (dk_run L O (n + 1)) kr' mi pc en ls st h = some r := fun en => dk_step_rel (R := fun a b => ∀ r, a = some r → b = some r) (fun _ h => h) hgo hk (fun _ _ => rfl) pc en ls st h
    rw [dk_run] at hr ⊢
    cases hen : dk_find (dk_code mi) pc with
    | none => rw [hen] at hr; cases hr
    | some en =>
      rw [hen] at hr
      dsimp only at hr ⊢
      by_cases hc : mi = dk_law ∧ pc = dk_head
      · rw [if_pos hc] at hr ⊢
        cases hg : h.2.2.1 with
        | inr g =>
          rw [hg] at hr
          dsimp only at hr ⊢
          by_cases hl : dk_allLaid g h.2.2.2.1 = true
          · rw [if_pos hl] at hr ⊢
            exact hgo _ _ _ (Nat.le_refl _) hk r hr
          · rw [if_neg hl] at hr; cases hr
        | inl g =>
          rw [hg] at hr
          dsimp only at hr ⊢
          exact hst _ r hr
      · rw [if_neg hc] at hr ⊢
        exact hst _ r hr
theorem dk_run_mono {L : Nat} {O : Nat → List dkV → dkH → dkR} {n n' : Nat} (hn : n ≤ n') {kr : dkY → dkR} {s : dkS} {r : dkY} (h : dk_run L O n kr s = some r) : dk_run L O n' kr s = some r := by
  induction hn with
  | refl => exact h
  | step _ ih => exact dk_run_mono1 _ _ _ _ (fun _ _ h => h) _ ih
/-- the oracle, method by method: it answers as the runs do -/
noncomputable def dk_OO (L : Nat) : Nat → Nat → List dkV → dkH → dkR
  | 0 => fun _ _ _ => none
  | k + 1 => fun j vs h => if j = k then @dite dkR (∃ y n, dk_run L (dk_OO L k) n some (k, 0, dk_args 0 vs, [], h) = some y) (Classical.propDecidable _) (fun hx => some hx.choose) (fun _ => none) else dk_OO L k j vs h
noncomputable def dk_OX (L : Nat) : Nat → List dkV → dkH → dkR := dk_OO L 105
theorem dk_OO_le {L : Nat} {k : Nat} : ∀ {k' : Nat}, k ≤ k' → ∀ j, j < k → dk_OO L k' j = dk_OO L k j := by
  intro k' hk j hj
  induction hk with
  | refl => rfl
  | @step k' hk ih =>
    funext vs h
    have : j ≠ k' := fun e => absurd (Nat.lt_of_lt_of_le hj hk) (by rw [e]; exact Nat.lt_irrefl _)
    rw [← ih]
    show (if j = k' then _ else dk_OO L k' j vs h) = _
    rw [if_neg this]
/-- a run from s comes to y -/
def dk_Ev (L : Nat) (s : dkS) (y : dkY) : Prop := ∃ n, dk_run L (dk_OX L) n some s = some y
theorem dk_OX_eq {L : Nat} {j : Nat} (hj : j < 105) (vs : List dkV) (h : dkH) : dk_OX L j vs h = @dite dkR (∃ y, dk_Ev L (j, 0, dk_args 0 vs, [], h) y) (Classical.propDecidable _) (fun hx => some hx.choose) (fun _ => none) := by
  have e1 : dk_OX L j vs h = dk_OO L (j + 1) j vs h := congrFun (congrFun (dk_OO_le (Nat.succ_le_of_lt hj) j (Nat.lt_succ_self j)) vs) h
  have e2 : ∀ n, dk_run L (dk_OO L j) n some (j, 0, dk_args 0 vs, [], h) = dk_run L (dk_OX L) n some (j, 0, dk_args 0 vs, [], h) := fun n =>
    dk_run_rel (R := fun a b => a = b) rfl n some some _ (fun i hi => (dk_OO_le (Nat.le_of_lt hj) i hi).symm) (fun _ => rfl)
  rw [e1]
  show (if j = j then _ else _) = _
  rw [if_pos rfl]
  have key : ∀ P Q : dkY → Prop, P = Q → @dite dkR (∃ y, P y) (Classical.propDecidable _) (fun hx => some hx.choose) (fun _ => none) = @dite dkR (∃ y, Q y) (Classical.propDecidable _) (fun hx => some hx.choose) (fun _ => none) := by
    intro P Q e; subst e; rfl
  exact key _ _ (funext fun y => by unfold dk_Ev; simp only [e2])
theorem dk_Ev_uniq {L : Nat} {s : dkS} {y y' : dkY} (a : dk_Ev L s y) (b : dk_Ev L s y') : y = y' := by
  obtain ⟨n, hn⟩ := a
  obtain ⟨n', hn'⟩ := b
  have h1 := dk_run_mono (Nat.le_max_left n n') hn
  have h2 := dk_run_mono (Nat.le_max_right n n') hn'
  exact Option.some.inj (h1.symm.trans h2)
theorem dk_OX_of {L : Nat} {j : Nat} (hj : j < 105) {vs : List dkV} {h : dkH} {y : dkY} (e : dk_Ev L (j, 0, dk_args 0 vs, [], h) y) : dk_OX L j vs h = some y := by
  rw [dk_OX_eq hj, dif_pos ⟨y, e⟩]
  have hx : ∃ y, dk_Ev L (j, 0, dk_args 0 vs, [], h) y := ⟨y, e⟩
  exact congrArg some (dk_Ev_uniq hx.choose_spec e)
theorem dk_OX_run {L : Nat} {j : Nat} (hj : j < 105) {vs : List dkV} {h : dkH} {y : dkY} (e : dk_OX L j vs h = some y) : dk_Ev L (j, 0, dk_args 0 vs, [], h) y := by
  rw [dk_OX_eq hj] at e
  split at e
  · rename_i hx
    cases e
    exact hx.choose_spec
  · cases e
