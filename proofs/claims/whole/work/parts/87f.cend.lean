/-! an offer goes: the lists, in both programs -/
section
variable {L : Nat}
def dk_kp (p : Nat) (e : Nat × Nat) : Bool := decide (e.1 / 4 ≠ p)
theorem kp_1 {p i : Nat} {l : List (Nat × Nat)} {e : Nat × Nat} (he : l[i]? = some e) (h : e.1 / 4 ≠ p) : (l.take (i + 1)).filter (dk_kp p) = (l.take i).filter (dk_kp p) ++ [e] := by
  rw [List.take_add_one, he, List.filter_append]
  simp [dk_kp, h]
theorem kp_0 {p i : Nat} {l : List (Nat × Nat)} {e : Nat × Nat} (he : l[i]? = some e) (h : e.1 / 4 = p) : (l.take (i + 1)).filter (dk_kp p) = (l.take i).filter (dk_kp p) := by
  rw [List.take_add_one, he, List.filter_append]
  simp [dk_kp, h]
theorem kp_le {p i : Nat} {l : List (Nat × Nat)} : ((l.take i).filter (dk_kp p)).length ≤ i := by
  have h1 := List.length_filter_le (dk_kp p) (l.take i)
  have h2 := List.length_take_le i l
  omega
/-- the cells of an entry -/
def dk_cc (m : dkM) (c j : Nat) (e : Nat × Nat) : Prop := m (8, c, 0) j = cI (e.1 / 4) ∧ m (8, c, 1) j = cI e.2 ∧ m (8, c, 2) j = cI (e.1 % 4)
def dk_cm (m : dkM) (c j : Nat) (e : Nat × Nat) : Prop := m (13, 24, 0) (64 * c + j) = cI e.1 ∧ m (13, 25, 0) (64 * c + j) = cI e.2
theorem cl_53_loop {c p : Nat} {Ls : List (Nat × Nat)} (hp : p < 16) (hle : Ls.length ≤ 64) (hb : ∀ e ∈ Ls, e.1 < 64) {l : Int64} {k q : Nat} : ∀ (j i : Nat), i + j = Ls.length → ∀ (m : dkM), m (7, c, 0) 3 = cI Ls.length → (∀ j e, ((Ls.take i).filter (dk_kp p))[j]? = some e → dk_cc m c j e) → (∀ j e, i ≤ j → Ls[j]? = some e → dk_cc m c j e) → ∃ m', dk_Ev L (53, 4, [(3, vI (cI i)), (2, vI (cI ((Ls.take i).filter (dk_kp p)).length)), (0, vR (7, c, 0)), (1, vI (cI p))], [], (m, l, .inl (), k, q)) ((m', l, .inl (), k, q), .inl none) ∧ m' (7, c, 0) 3 = cI (Ls.filter (dk_kp p)).length ∧ (∀ j e, (Ls.filter (dk_kp p))[j]? = some e → dk_cc m' c j e) ∧ (∀ a f, ¬ (a.1 = 8 ∧ a.2.1 = c) → ¬ (a = (7, c, 0) ∧ f = 3) → m' a f = m a f) := by
  intro j
  induction j with
  | zero =>
    intro i hi m h7 hK hR
    have hi : i = Ls.length := by omega
    subst hi
    rw [List.take_length] at hK ⊢
    refine ⟨dk_up m (7, c, 0) 3 (cI (Ls.filter (dk_kp p)).length), sg_53_4 ⟨rfl, rfl, rfl, rfl, rfl, rfl, rfl, rfl, trivial⟩ rfl ?_, dk_up_eq, fun j e he => ?_, fun a f h1 h2 => if_neg h2⟩
    · simp (disch := omega) only [↓reduceIte, h7, cI_lt, Nat.lt_irrefl]
      exact dk_ex_some
    · have := hK j e he
      simpa [dk_cc, dk_up] using this
  | succ j ih =>
    intro i hi m h7 hK hR
    have hil : i < Ls.length := by omega
    have he : Ls[i]? = some Ls[i] := List.getElem?_eq_getElem hil
    generalize Ls[i] = e at he
    have hem := hb e (List.mem_of_getElem? he)
    obtain ⟨y0, y1, y2⟩ := hR i e (Nat.le_refl _) he
    have hkl := kp_le (p := p) (i := i) (l := Ls)
    by_cases a : e.1 / 4 = p
    · obtain ⟨m', ev, r⟩ := ih (i + 1) (by omega) m h7 (by rw [kp_0 he a]; exact hK) (fun j e hj h => hR j e (by omega) h)
      rw [kp_0 he a] at ev
      refine ⟨m', sg_53_4 ⟨rfl, rfl, rfl, rfl, rfl, rfl, rfl, rfl, trivial⟩ rfl ?_, r⟩
      simp (disch := omega) only [↓reduceIte, h7, y0, a, hil, cI_lt, cI_nat, cI_add, le_F, or_self, Nat.not_lt_zero]
      exact dk_ex_run (dk_ev_ls ev ⟨rfl, rfl, rfl, rfl, rfl, rfl, rfl, rfl, trivial⟩ rfl)
    · obtain ⟨m', ev, r1, r2, r3⟩ := ih (i + 1) (by omega) (dk_up (dk_up (dk_up m (8, c, 0) ((Ls.take i).filter (dk_kp p)).length (cI (e.1 / 4))) (8, c, 1) ((Ls.take i).filter (dk_kp p)).length (cI e.2)) (8, c, 2) ((Ls.take i).filter (dk_kp p)).length (cI (e.1 % 4))) (by simpa [dk_up] using h7) (by
        rw [kp_1 he a]
        intro j x hx
        rcases Nat.lt_trichotomy j ((Ls.take i).filter (dk_kp p)).length with hh | hh | hh
        · rw [List.getElem?_append_left hh] at hx
          have := hK j x hx
          have hne : ¬ j = ((Ls.take i).filter (dk_kp p)).length := by omega
          simpa [dk_cc, dk_up, hne] using this
        · subst hh
          simp at hx
          subst hx
          simp [dk_cc, dk_up]
        · rw [List.getElem?_eq_none (by simp; omega)] at hx
          cases hx) (fun j x hj hx => by
        have := hR j x (by omega) hx
        have hne : ¬ j = ((Ls.take i).filter (dk_kp p)).length := by omega
        simpa [dk_cc, dk_up, hne] using this)
      refine ⟨m', sg_53_4 ⟨rfl, rfl, rfl, rfl, rfl, rfl, rfl, rfl, trivial⟩ rfl ?_, r1, r2, fun a f h1 h2 => ?_⟩
      · rw [kp_1 he a, List.length_append, List.length_singleton] at ev
        simp (disch := omega) only [↓reduceIte, h7, y0, y1, y2, a, hil, cI_lt, cI_nat, cI_inj, cI_add, dk_up_j, le_F, or_self, Nat.not_lt_zero]
        exact dk_ex_run ev
      · rw [r3 a f h1 h2, dk_up, if_neg (fun h => h1 (by simp [h.1])), dk_up, if_neg (fun h => h1 (by simp [h.1])), dk_up, if_neg (fun h => h1 (by simp [h.1]))]
variable {N : dkNN} {V : dkVV} {E : dkEE} {W : dkWW} {T n : Nat}
theorem rm_eq {p c : Nat} : dk_rm E p c = (E c).filter (dk_kp p) := rfl
theorem cl_53 {c p : Nat} {m : dkM} {l : Int64} {k q : Nat} (hp : p < 16) (hc : c < 8) (hle : (E c).length ≤ 64) (hb : ∀ e ∈ E c, e.1 < 64) (hl : PCl E m c) : ∃ m', dk_Ev L (53, 0, [(0, vR (7, c, 0)), (1, vI (cI p))], [], (m, l, .inl (), k, q)) ((m', l, .inl (), k, q), .inl none) ∧ PCl (dk_rm E p) m' c ∧ (∀ a f, ¬ (a.1 = 8 ∧ a.2.1 = c) → ¬ (a = (7, c, 0) ∧ f = 3) → m' a f = m a f) := by
  obtain ⟨m', ev, r1, r2, r3⟩ := cl_53_loop (L := L) (c := c) (l := l) (k := k) (q := q) hp hle hb (E c).length 0 (by omega) m hl.1 (fun j e h => by simp at h) (fun j e _ h => hl.2 j e h)
  refine ⟨m', sg_53_0 ⟨rfl, rfl, rfl, rfl, trivial⟩ rfl (dk_ex_run ev), ⟨r1, r2⟩, r3⟩
/-- the lists up to c are cleared of p -/
def dk_rc (E : dkEE) (p c : Nat) : dkEE := fun d => if d < c then dk_rm E p d else E d
theorem cl_55_loop {p : Nat} (hp : p < 16) (hle : ∀ c, c < 8 → (E c).length ≤ 64 ∧ ∀ e ∈ E c, e.1 < 64) {l : Int64} {k q : Nat} : ∀ (j c : Nat), c + j = 8 → ∀ (m : dkM), m (2, p, 0) 0 = cI p → (∀ d, d < 8 → PCl (dk_rc E p c) m d) → ∃ m' : dkM, (∀ d, d < 8 → PCl (dk_rm E p) m' d) ∧ (∀ a f, a.1 ≠ 7 → a.1 ≠ 8 → m' a f = m a f) ∧ (∀ y, dk_Ev L (55, 29, [(2, vI (cI 0)), (0, vR (0, 0, 0)), (1, vR (2, p, 0))], [], (m', l, .inl (), k, q)) y → dk_Ev L (55, 2, [(2, vI (cI c)), (0, vR (0, 0, 0)), (1, vR (2, p, 0))], [], (m, l, .inl (), k, q)) y) := by
  intro j
  induction j with
  | zero =>
    intro c hc m h0 hl
    have hc : c = 8 := by omega
    subst hc
    refine ⟨m, fun d hd => ?_, fun _ _ _ _ => rfl, fun y hk => sg_55_2 ⟨rfl, rfl, rfl, rfl, rfl, rfl, trivial⟩ rfl ?_⟩
    · have := hl d hd
      simpa [PCl, dk_rc, hd] using this
    · simp (disch := omega) only [↓reduceIte, cI_lt, Nat.lt_irrefl]
      exact dk_ex_run hk
  | succ j ih =>
    intro c hc m h0 hl
    have hc8 : c < 8 := by omega
    have hec : dk_rc E p c c = E c := if_neg (Nat.lt_irrefl _)
    obtain ⟨m', ev, hl', hf⟩ := cl_53 (L := L) (E := dk_rc E p c) (c := c) (m := m) (l := l) (k := k) (q := q) hp hc8 (by rw [hec]; exact (hle c hc8).1) (by rw [hec]; exact (hle c hc8).2) (hl c hc8)
    obtain ⟨m'', g1, g2, g3⟩ := ih (c + 1) (by omega) m' (by rw [hf _ _ (by simp) (by simp)]; exact h0) (fun d hd => by
      by_cases e : d = c
      · subst e
        have e1 : dk_rc E p (d + 1) d = dk_rm E p d := if_pos (by omega)
        have e2 : dk_rm (dk_rc E p d) p d = dk_rm E p d := by rw [dk_rm, hec]; rfl
        simp only [PCl, e1]
        simpa only [PCl, e2] using hl'
      · have e1 : dk_rc E p (c + 1) d = dk_rc E p c d := by
          simp only [dk_rc]
          by_cases hh : d < c
          · rw [if_pos hh, if_pos (by omega)]
          · rw [if_neg hh, if_neg (by omega)]
        have hd := hl d hd
        have k7 : m' (7, d, 0) 3 = m (7, d, 0) 3 := hf _ _ (by simp) (by simp [e])
        have k8 : ∀ j f, m' (8, d, j) f = m (8, d, j) f := fun j f => hf _ _ (by simp [e]) (by simp)
        simpa only [PCl, e1, k7, k8] using hd)
    refine ⟨m'', g1, fun a f h7 h8 => by rw [g2 a f h7 h8]; exact hf a f (fun h => h8 h.1) (fun h => h7 (by simp [h.1])), fun y hk => sg_55_2 ⟨rfl, rfl, rfl, rfl, rfl, rfl, trivial⟩ rfl ?_⟩
    simp (disch := omega) only [↓reduceIte, cI_lt, cI_nat, hc8, h0, le_F, or_self, Nat.not_lt_zero]
    refine dk_ex_run (kv_55_18 ev (sg_55_21 ⟨rfl, rfl, rfl, rfl, rfl, rfl, trivial⟩ rfl ?_))
    simp only [cI_add]
    exact dk_ex_run (g3 y hk)
theorem cl_55_29 {p : Nat} {l : Int64} {k q : Nat} : ∀ (j i : Nat), i + j = 16 → ∀ (m : dkM), ∃ m', dk_Ev L (55, 29, [(2, vI (cI i)), (0, vR (0, 0, 0)), (1, vR (2, p, 0))], [], (m, l, .inl (), k, q)) ((dk_up (dk_up (dk_up (dk_up (dk_up m' (3, p, 0) 0 (cI 0)) (3, p, 0) 2 (cJ 0)) (2, p, 0) 4 (cI 0)) (2, p, 0) 5 (cI 0)) (2, p, 0) 7 (cI 9), l, .inl (), k, q), .inl none) ∧ (∀ r, i ≤ r → r < 16 → m' (2, r, 0) 10 = cI 0) ∧ (∀ a f, ¬ (a.1 = 2 ∧ f = 10) → m' a f = m a f) ∧ (∀ r, r < i → m' (2, r, 0) 10 = m (2, r, 0) 10) := by
  intro j
  induction j with
  | zero =>
    intro i hi m
    have hi : i = 16 := by omega
    subst hi
    refine ⟨m, sg_55_29 ⟨rfl, rfl, rfl, rfl, rfl, rfl, trivial⟩ rfl ?_, fun r h1 h2 => by omega, fun _ _ _ => rfl, fun _ _ => rfl⟩
    simp (disch := omega) only [↓reduceIte, cI_lt, Nat.lt_irrefl]
    exact dk_ex_some
  | succ j ih =>
    intro i hi m
    have hi16 : i < 16 := by omega
    obtain ⟨m', ev, h1, h2, h3⟩ := ih (i + 1) (by omega) (dk_up m (2, i, 0) 10 (cI 0))
    refine ⟨m', sg_55_29 ⟨rfl, rfl, rfl, rfl, rfl, rfl, trivial⟩ rfl ?_, fun r hr hr2 => ?_, fun a f h => ?_, fun r hr => ?_⟩
    · simp (disch := omega) only [↓reduceIte, cI_lt, cI_nat, cI_add, hi16, le_F, or_self, Nat.not_lt_zero]
      exact dk_ex_run ev
    · by_cases e : r = i
      · subst e
        rw [h3 r (by omega), dk_up_eq]
      · exact h1 r (by omega) hr2
    · rw [h2 a f h, dk_up, if_neg (fun e => h (by simp [e.1, e.2]))]
    · rw [h3 r (by omega), dk_up, if_neg (fun e => by simp at e; omega)]
/-- endOffer -/
theorem cl_end {p : Nat} {m : dkM} {l : Int64} {k q : Nat} (hp : p < 16) (hC : PC N V E W T m) (hB : BD N E W T) : ∃ m', dk_Ev L (55, 0, [(0, vR (0, 0, 0)), (1, vR (2, p, 0))], [], (m, l, .inl (), k, q)) ((m', l, .inl (), k, q), .inl none) ∧ PC (nE N p) V (dk_rm E p) W T m' ∧ FrC m m' := by
  obtain ⟨m1, g1, g2, g3⟩ := cl_55_loop (L := L) (E := E) (l := l) (k := k) (q := q) hp (fun c hc => ⟨(hB.2.2.1 c hc).1, fun e he => ((hB.2.2.1 c hc).2 e he).1⟩) 8 0 rfl m (hC.1 p hp).1 (fun d hd => by simpa [PCl, dk_rc] using hC.2.2.1 d hd)
  obtain ⟨m2, ev, f1, f2, -⟩ := cl_55_29 (L := L) (p := p) (l := l) (k := k) (q := q) 16 0 rfl m1
  refine ⟨_, sg_55_0 ⟨rfl, rfl, rfl, rfl, trivial⟩ rfl (dk_ex_run (g3 _ ev)), ?_, ?_⟩
  · obtain ⟨a1, a2, a3, a4, a5, a6⟩ := hC
    have kk : ∀ k i j f, k ≠ 7 → k ≠ 8 → k ≠ 2 → m2 (k, i, j) f = m (k, i, j) f := fun k i j f h1 h2 h3 => by
      rw [f2 _ _ (fun h => h3 h.1), g2 _ _ h1 h2]
    have k2 : ∀ i f, f ≠ 10 → m2 (2, i, 0) f = m (2, i, 0) f := fun i f h => by
      rw [f2 _ _ (fun h' => h h'.2), g2 _ _ (by simp) (by simp)]
    have kl : ∀ k i j f, k ≠ 2 → m2 (k, i, j) f = m1 (k, i, j) f := fun k i j f h => f2 _ _ (fun h' => h h'.1)
    refine ⟨fun r hr => ?_, fun r hr g hg => ?_, fun c hc => ?_, ?_, ?_, ?_⟩
    · have h1 := a1 r hr
      have h2 := f1 r (by omega) hr
      by_cases e : r = p
      · subst e
        simp (disch := decide) [PCp, dk_up, nE, nU, kk, k2] at h1 ⊢
        simp [h1]
      · simp (disch := decide) [PCp, dk_up, nE, nU, e, hr, kk, k2] at h1 ⊢
        simp [h1, h2]
        grind
    · simpa (disch := decide) [PCg, dk_up, nE, nU, kk] using a2 r hr g hg
    · have := g1 c hc
      simpa (disch := decide) [PCl, dk_up, kl] using this
    · simpa (disch := decide) [PCw, dk_up, kk] using a4
    · simpa (disch := decide) [dk_up, kk] using a5
    · simpa (disch := decide) [PCv, dk_lv, dk_up, nE, nU, kk] using a6
  · refine FrC_up (Nat.le_of_ble_eq_true rfl) (FrC_up (Nat.le_of_ble_eq_true rfl) (FrC_up (Nat.le_of_ble_eq_true rfl) (FrC_up (Nat.le_of_ble_eq_true rfl) (FrC_up (Nat.le_of_ble_eq_true rfl) ?_))))
    exact fun a f ha => by rw [f2 a f (fun h => by omega), g2 a f (by omega) (by omega)]
end
