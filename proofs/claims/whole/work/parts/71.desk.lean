/-! the desk as mathematics: N f i small numbers (of a process i: 0 live, 1 guards, 2 ticks, 3 place, 4 mark, 5 version, 6 holder + 1 or 0, 7 ticks gone by, 8 guardAt, 9 entryAt, 10 clean, 11 wanted process, 12 wanted version, 13 wanted guard, 14 partner, 15 paired guard; of a guard 4p+g: 16 kind, 17 channel, 18 on), V ints (0 value of a guard, 1 received by a process), E c the entries (4p+g, version) of a channel, W the pairs, T the ticks -/
abbrev dkNN : Type := Nat → Nat → Nat
abbrev dkVV : Type := Nat → Nat → Int32
abbrev dkEE : Type := Nat → List (Nat × Nat)
abbrev dkWW : Type := List (Nat × Nat × Nat × Nat × Int32)
def nU (N : dkNN) (f i x : Nat) : dkNN := fun g j => if g = f ∧ j = i then x else N g j
def vU (V : dkVV) (f i : Nat) (x : Int32) : dkVV := fun g j => if g = f ∧ j = i then x else V g j
def eU (E : dkEE) (c : Nat) (x : List (Nat × Nat)) : dkEE := fun d => if d = c then x else E d
/-- the live ones -/
def dk_lv (N : dkNN) : List Nat := (List.range 16).filter (fun p => N 0 p == 1)
/-! the class's picture -/
def PCp (N : dkNN) (V : dkVV) (m : dkM) (p : Nat) : Prop :=
  m (2, p, 0) 0 = cI p ∧ m (2, p, 0) 3 = cI (N 0 p) ∧ m (2, p, 0) 4 = cI (N 1 p) ∧ m (2, p, 0) 5 = cI (N 2 p) ∧ m (2, p, 0) 7 = cI (N 3 p) ∧ m (3, p, 0) 0 = cI (N 4 p) ∧ m (3, p, 0) 1 = cI (N 5 p) ∧ m (3, p, 0) 2 = cJ (N 6 p) ∧
  (N 3 p ≠ 9 → m (2, p, 0) 6 = cI (N 7 p)) ∧ (N 3 p ≤ 6 → m (2, p, 0) 8 = cI (N 8 p)) ∧
  (1 ≤ N 3 p ∧ N 3 p ≤ 4 → m (2, p, 0) 9 = cI (N 9 p) ∧ m (2, p, 0) 10 = cI (N 10 p)) ∧
  (2 ≤ N 3 p ∧ N 3 p ≤ 6 → m (2, p, 0) 11 = cI (N 11 p) ∧ m (2, p, 0) 12 = cI (N 12 p) ∧ m (2, p, 0) 13 = cI (N 13 p)) ∧
  (N 4 p = 3 ∨ N 3 p = 6 → m (3, p, 0) 3 = cI (N 14 p) ∧ m (3, p, 0) 4 = cI (N 15 p) ∧ m (3, p, 0) 5 = V 1 p)
def PCg (N : dkNN) (V : dkVV) (m : dkM) (p g : Nat) : Prop := m (5, p, g) 0 = cI (N 16 (4 * p + g)) ∧ m (5, p, g) 1 = cI (N 17 (4 * p + g)) ∧ m (5, p, g) 2 = V 0 (4 * p + g) ∧ m (5, p, g) 3 = cI (N 18 (4 * p + g))
def PCl (E : dkEE) (m : dkM) (c : Nat) : Prop := m (7, c, 0) 3 = cI (E c).length ∧ ∀ i (e : Nat × Nat), (E c)[i]? = some e → m (8, c, 0) i = cI (e.1 / 4) ∧ m (8, c, 1) i = cI e.2 ∧ m (8, c, 2) i = cI (e.1 % 4)
def PCw (W : dkWW) (m : dkM) : Prop := m (9, 0, 0) 5 = cI W.length ∧ ∀ k (w : Nat × Nat × Nat × Nat × Int32), W[k]? = some w → m (10, 0, 0) k = cI w.1 ∧ m (10, 1, 0) k = cI w.2.1 ∧ m (10, 2, 0) k = cI w.2.2.1 ∧ m (10, 3, 0) k = cI w.2.2.2.1 ∧ m (10, 4, 0) k = w.2.2.2.2
def PCv (N : dkNN) (m : dkM) : Prop := m (0, 0, 0) 4 = cI (dk_lv N).length ∧ ∀ k p, (dk_lv N)[k]? = some p → m (11, 0, 0) k = cI p
def PC (N : dkNN) (V : dkVV) (E : dkEE) (W : dkWW) (T : Nat) (m : dkM) : Prop := (∀ p, p < 16 → PCp N V m p) ∧ (∀ p, p < 16 → ∀ g, g < 4 → PCg N V m p g) ∧ (∀ c, c < 8 → PCl E m c) ∧ PCw W m ∧ m (0, 0, 0) 5 = cI T ∧ PCv N m
/-! the reference's picture -/
def PMp (N : dkNN) (V : dkVV) (T : Nat) (m : dkM) (p : Nat) : Prop :=
  m (16, 2, 0) p = cI (N 0 p) ∧ m (13, 10, 0) p = cI (N 1 p) ∧ m (13, 15, 0) p = cI (N 2 p) ∧ m (13, 6, 0) p = cI (N 3 p) ∧ m (13, 3, 0) p = cI (N 4 p) ∧ m (13, 4, 0) p = cI (N 5 p) ∧ m (13, 5, 0) p = cJ (N 6 p) ∧
  (N 3 p ≠ 9 → m (13, 16, 0) p = cI (T - N 7 p)) ∧ (N 3 p ≤ 6 → m (13, 17, 0) p = cI (N 8 p)) ∧
  (1 ≤ N 3 p ∧ N 3 p ≤ 4 → m (13, 18, 0) p = cI (N 9 p) ∧ m (16, 19, 0) p = cI (N 10 p)) ∧
  (2 ≤ N 3 p ∧ N 3 p ≤ 6 → m (13, 20, 0) p = cI (N 11 p) ∧ m (13, 21, 0) p = cI (N 12 p) ∧ m (13, 22, 0) p = cI (N 13 p)) ∧
  (N 4 p = 3 → m (13, 7, 0) p = cI (N 14 p) ∧ m (13, 8, 0) p = cI (N 15 p)) ∧ (N 4 p = 3 ∨ N 3 p = 6 → m (13, 9, 0) p = V 1 p)
def PMg (N : dkNN) (V : dkVV) (m : dkM) (i : Nat) : Prop := m (13, 11, 0) i = cI (N 16 i) ∧ m (13, 12, 0) i = cI (N 17 i) ∧ m (13, 13, 0) i = V 0 i ∧ m (16, 14, 0) i = cI (N 18 i)
def PMl (E : dkEE) (m : dkM) (c : Nat) : Prop := m (13, 23, 0) c = cI (E c).length ∧ ∀ i (e : Nat × Nat), (E c)[i]? = some e → m (13, 24, 0) (64 * c + i) = cI e.1 ∧ m (13, 25, 0) (64 * c + i) = cI e.2
def PMw (W : dkWW) (m : dkM) : Prop := m (12, 0, 0) 26 = cI W.length ∧ ∀ k (w : Nat × Nat × Nat × Nat × Int32), W[k]? = some w → m (13, 27, 0) (5 * k) = cI w.1 ∧ m (13, 27, 0) (5 * k + 1) = cI w.2.1 ∧ m (13, 27, 0) (5 * k + 2) = cI w.2.2.1 ∧ m (13, 27, 0) (5 * k + 3) = cI w.2.2.2.1 ∧ m (13, 27, 0) (5 * k + 4) = w.2.2.2.2
def PM (N : dkNN) (V : dkVV) (E : dkEE) (W : dkWW) (T : Nat) (m : dkM) : Prop := (∀ p, p < 16 → PMp N V T m p) ∧ (∀ i, i < 64 → PMg N V m i) ∧ (∀ c, c < 8 → PMl E m c) ∧ PMw W m ∧ m (12, 0, 0) 1 = cI T
/-! the bounds -/
def BDp (N : dkNN) (T : Nat) (p : Nat) : Prop := N 0 p ≤ 1 ∧ N 1 p ≤ 4 ∧ N 2 p ≤ 1000 ∧ N 3 p ≤ 9 ∧ N 4 p ≤ 3 ∧ N 5 p ≤ 600 ∧ N 6 p ≤ 16 ∧ N 7 p ≤ T ∧
  (N 3 p ≤ 6 → N 8 p < N 1 p ∧ N 18 (4 * p + N 8 p) = 1) ∧ (1 ≤ N 3 p ∧ N 3 p ≤ 4 → N 9 p ≤ 64 ∧ N 10 p ≤ 1 ∧ (2 ≤ N 3 p → N 9 p ≤ 63)) ∧
  (2 ≤ N 3 p ∧ N 3 p ≤ 6 → N 11 p < 16 ∧ N 12 p ≤ 600 ∧ N 13 p < 4 ∧ N 11 p ≠ p)
def BDg (N : dkNN) (i : Nat) : Prop := N 16 i ≤ 1 ∧ N 17 i < 8 ∧ N 18 i ≤ 1
def BD (N : dkNN) (E : dkEE) (W : dkWW) (T : Nat) : Prop := (∀ p, p < 16 → BDp N T p) ∧ (∀ i, i < 64 → BDg N i) ∧ (∀ c, c < 8 → (E c).length ≤ 64 ∧ ∀ e ∈ E c, e.1 < 64 ∧ e.2 ≤ 600) ∧ W.length ≤ 128 ∧ T ≤ 600
/-! frames -/
theorem dk_up_eq {m : dkM} {a : dkI} {f : Nat} {x : Int32} : dk_up m a f x a f = x := if_pos ⟨rfl, rfl⟩
/-- what the class's methods leave alone, what the reference's do -/
def FrC (m m' : dkM) : Prop := ∀ a f, 12 ≤ a.1 → m' a f = m a f
def FrM (m m' : dkM) : Prop := ∀ a f, a.1 < 12 ∨ a.1 = 15 → m' a f = m a f
theorem PM_of_FrC {N : dkNN} {V : dkVV} {E : dkEE} {W : dkWW} {T : Nat} {m m' : dkM} (h : FrC m m') (hp : PM N V E W T m) : PM N V E W T m' := by
  have e12 : ∀ i j f, m' (12, i, j) f = m (12, i, j) f := fun i j f => h (12, i, j) f (Nat.le_of_ble_eq_true rfl)
  have e13 : ∀ i j f, m' (13, i, j) f = m (13, i, j) f := fun i j f => h (13, i, j) f (Nat.le_of_ble_eq_true rfl)
  have e16 : ∀ i j f, m' (16, i, j) f = m (16, i, j) f := fun i j f => h (16, i, j) f (Nat.le_of_ble_eq_true rfl)
  simpa only [PM, PMp, PMg, PMl, PMw, e12, e13, e16] using hp
theorem PC_of_FrM {N : dkNN} {V : dkVV} {E : dkEE} {W : dkWW} {T : Nat} {m m' : dkM} (h : FrM m m') (hp : PC N V E W T m) : PC N V E W T m' := by
  have e : ∀ k i j f, k < 12 → m' (k, i, j) f = m (k, i, j) f := fun k i j f hk => h _ _ (Or.inl hk)
  have e0 := fun i j f => e 0 i j f (by decide)
  have e2 := fun i j f => e 2 i j f (by decide)
  have e3 := fun i j f => e 3 i j f (by decide)
  have e5 := fun i j f => e 5 i j f (by decide)
  have e7 := fun i j f => e 7 i j f (by decide)
  have e8 := fun i j f => e 8 i j f (by decide)
  have e9 := fun i j f => e 9 i j f (by decide)
  have e10 := fun i j f => e 10 i j f (by decide)
  have e11 := fun i j f => e 11 i j f (by decide)
  simpa only [PC, PCp, PCg, PCl, PCw, PCv, e0, e2, e3, e5, e7, e8, e9, e10, e11] using hp
/-! the next guard that is on: 0 none, else its number + 1 -/
def dk_nx (N : dkNN) (p : Nat) : Nat → Nat → Nat
  | 0, _ => 0
  | k + 1, g => if N 18 (4 * p + g) = 1 then g + 1 else dk_nx N p k (g + 1)
