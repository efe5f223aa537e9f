/-! an offer goes, in the reference -/
section
variable {L : Nat}
theorem md_96_13 {c p : Nat} {Ls : List (Nat × Nat)} (hp : p < 16) (hc : c < 8) (hle : Ls.length ≤ 64) (hb : ∀ e ∈ Ls, e.1 < 64) {l : Int64} {k q : Nat} : ∀ (j i : Nat), i + j = Ls.length → ∀ (m : dkM), m (13, 23, 0) c = cI Ls.length → (∀ j e, ((Ls.take i).filter (dk_kp p))[j]? = some e → dk_cm m c j e) → (∀ j e, i ≤ j → Ls[j]? = some e → dk_cm m c j e) → ∃ m' : dkM, m' (13, 23, 0) c = cI (Ls.filter (dk_kp p)).length ∧ (∀ j e, (Ls.filter (dk_kp p))[j]? = some e → dk_cm m' c j e) ∧ (∀ a f, ¬ (a = (13, 23, 0) ∧ f = c) → ¬ ((a = (13, 24, 0) ∨ a = (13, 25, 0)) ∧ 64 * c ≤ f ∧ f < 64 * c + 64) → m' a f = m a f) ∧ (∀ y, dk_Ev L (96, 2, [(2, vI (cI (c + 1))), (0, vR (12, 0, 0)), (1, vI (cI p))], [], (m', l, .inl (), k, q)) y → dk_Ev L (96, 13, [(4, vI (cI i)), (3, vI (cI ((Ls.take i).filter (dk_kp p)).length)), (0, vR (12, 0, 0)), (1, vI (cI p)), (2, vI (cI c))], [], (m, l, .inl (), k, q)) y) := by
  intro j
  induction j with
  | zero =>
    intro i hi m h7 hK hR
    have hi : i = Ls.length := by omega
    subst hi
    rw [List.take_length] at hK ⊢
    refine ⟨dk_up m (13, 23, 0) c (cI (Ls.filter (dk_kp p)).length), dk_up_eq, fun j e he => ?_, fun a f h1 h2 => if_neg h1, fun y hk => sg_96_13 ⟨rfl, rfl, rfl, rfl, rfl, rfl, rfl, rfl, rfl, rfl, trivial⟩ rfl ?_⟩
    · have := hK j e he
      simpa [dk_cm, dk_up] using this
    · simp (disch := omega) only [↓reduceIte, h7, cI_lt, cI_nat, cI_add, le_F, or_self, Nat.not_lt_zero, Nat.lt_irrefl]
      exact dk_ex_run (dk_ev_ls hk ⟨rfl, rfl, rfl, rfl, rfl, rfl, trivial⟩ rfl)
  | succ j ih =>
    intro i hi m h7 hK hR
    have hil : i < Ls.length := by omega
    have he : Ls[i]? = some Ls[i] := List.getElem?_eq_getElem hil
    generalize Ls[i] = e at he
    have hem := hb e (List.mem_of_getElem? he)
    obtain ⟨y0, y1⟩ := hR i e (Nat.le_refl _) he
    have hkl := kp_le (p := p) (i := i) (l := Ls)
    by_cases a : e.1 / 4 = p
    · obtain ⟨m', r1, r2, r3, r4⟩ := ih (i + 1) (by omega) m h7 (by rw [kp_0 he a]; exact hK) (fun j e hj h => hR j e (by omega) h)
      rw [kp_0 he a] at r4
      refine ⟨m', r1, r2, r3, fun y hk => sg_96_13 ⟨rfl, rfl, rfl, rfl, rfl, rfl, rfl, rfl, rfl, rfl, trivial⟩ rfl ?_⟩
      simp (disch := omega) only [↓reduceIte, h7, y0, a, hil, cI_lt, cI_nat, cI_add, cI_mul, cI_div, le_F, or_self, Nat.not_lt_zero]
      exact dk_ex_run (dk_ev_ls (r4 y hk) ⟨rfl, rfl, rfl, rfl, rfl, rfl, rfl, rfl, rfl, rfl, trivial⟩ rfl)
    · obtain ⟨m', r1, r2, r3, r4⟩ := ih (i + 1) (by omega) (dk_up (dk_up m (13, 24, 0) (64 * c + ((Ls.take i).filter (dk_kp p)).length) (cI e.1)) (13, 25, 0) (64 * c + ((Ls.take i).filter (dk_kp p)).length) (cI e.2)) (by simpa [dk_up] using h7) (by
        rw [kp_1 he a]
        intro j x hx
        rcases Nat.lt_trichotomy j ((Ls.take i).filter (dk_kp p)).length with hh | hh | hh
        · rw [List.getElem?_append_left hh] at hx
          have := hK j x hx
          have hne : ¬ j = ((Ls.take i).filter (dk_kp p)).length := by omega
          simpa [dk_cm, dk_up, hne] using this
        · subst hh
          simp at hx
          subst hx
          simp [dk_cm, dk_up]
        · rw [List.getElem?_eq_none (by simp; omega)] at hx
          cases hx) (fun j x hj hx => by
        have := hR j x (by omega) hx
        have hne : ¬ j = ((Ls.take i).filter (dk_kp p)).length := by omega
        simpa [dk_cm, dk_up, hne] using this)
      refine ⟨m', r1, r2, fun a f h1 h2 => ?_, fun y hk => sg_96_13 ⟨rfl, rfl, rfl, rfl, rfl, rfl, rfl, rfl, rfl, rfl, trivial⟩ rfl ?_⟩
      · rw [r3 a f h1 h2, dk_up, if_neg (fun h => h2 ⟨Or.inr h.1, by omega, by omega⟩), dk_up, if_neg (fun h => h2 ⟨Or.inl h.1, by omega, by omega⟩)]
      · have ev := r4 y hk
        rw [kp_1 he a, List.length_append, List.length_singleton] at ev
        simp (disch := omega) only [↓reduceIte, h7, y0, y1, a, hil, cI_lt, cI_nat, cI_inj, cI_add, cI_mul, cI_div, dk_up_i, le_F, or_self, Nat.not_lt_zero]
        exact dk_ex_run ev
variable {N : dkNN} {V : dkVV} {E : dkEE} {W : dkWW} {T n : Nat}
theorem md_96_2 {p : Nat} (hp : p < 16) (hle : ∀ c, c < 8 → (E c).length ≤ 64 ∧ ∀ e ∈ E c, e.1 < 64) {l : Int64} {k q : Nat} : ∀ (j c : Nat), c + j = 8 → ∀ (m : dkM), (∀ d, d < 8 → PMl (dk_rc E p c) m d) → ∃ m' : dkM, (∀ d, d < 8 → PMl (dk_rm E p) m' d) ∧ (∀ a f, a ≠ (13, 23, 0) → a ≠ (13, 24, 0) → a ≠ (13, 25, 0) → m' a f = m a f) ∧ (∀ y, dk_Ev L (96, 112, [(2, vI (cI 0)), (0, vR (12, 0, 0)), (1, vI (cI p))], [], (m', l, .inl (), k, q)) y → dk_Ev L (96, 2, [(2, vI (cI c)), (0, vR (12, 0, 0)), (1, vI (cI p))], [], (m, l, .inl (), k, q)) y) := by
  intro j
  induction j with
  | zero =>
    intro c hc m hl
    have hc : c = 8 := by omega
    subst hc
    refine ⟨m, fun d hd => ?_, fun _ _ _ _ _ => rfl, fun y hk => sg_96_2 ⟨rfl, rfl, rfl, rfl, rfl, rfl, trivial⟩ rfl ?_⟩
    · have := hl d hd
      simpa [PMl, dk_rc, hd] using this
    · simp (disch := omega) only [↓reduceIte, cI_lt, Nat.lt_irrefl]
      exact dk_ex_run hk
  | succ j ih =>
    intro c hc m hl
    have hc8 : c < 8 := by omega
    have hec : dk_rc E p c c = E c := if_neg (Nat.lt_irrefl _)
    have hlc := hl c hc8
    rw [PMl, hec] at hlc
    obtain ⟨m', r1, r2, r3, r4⟩ := md_96_13 (L := L) (c := c) (Ls := E c) (l := l) (k := k) (q := q) hp hc8 (hle c hc8).1 (hle c hc8).2 (E c).length 0 (by omega) m hlc.1 (fun j e h => by simp at h) (fun j e _ h => hlc.2 j e h)
    obtain ⟨m'', g1, g2, g3⟩ := ih (c + 1) (by omega) m' (fun d hd => by
      by_cases e : d = c
      · subst e
        have e1 : dk_rc E p (d + 1) d = dk_rm E p d := if_pos (by omega)
        rw [PMl, e1]
        exact ⟨r1, r2⟩
      · have e1 : dk_rc E p (c + 1) d = dk_rc E p c d := by
          simp only [dk_rc]
          by_cases hh : d < c
          · rw [if_pos hh, if_pos (by omega)]
          · rw [if_neg hh, if_neg (by omega)]
        have hd' := hl d hd
        have hlen : (dk_rc E p c d).length ≤ 64 := by
          simp only [dk_rc]
          split
          · have h1 := List.length_filter_le (fun e : Nat × Nat => decide (e.1 / 4 ≠ p)) (E d)
            have h2 := (hle d hd).1
            rw [dk_rm]; omega
          · exact (hle d hd).1
        rw [PMl, e1]
        refine ⟨by rw [r3 _ _ (by simp [e]) (by simp)]; exact hd'.1, fun i x hx => ?_⟩
        have hlt := (List.getElem?_eq_some_iff.1 hx).1
        rw [r3 _ _ (by simp) (fun h => by omega), r3 _ _ (by simp) (fun h => by omega)]
        exact hd'.2 i x hx)
    refine ⟨m'', g1, fun a f h1 h2 h3 => by rw [g2 a f h1 h2 h3]; exact r3 a f (fun h => h1 h.1) (fun h => h.1.elim h2 h3), fun y hk => sg_96_2 ⟨rfl, rfl, rfl, rfl, rfl, rfl, trivial⟩ rfl ?_⟩
    simp (disch := omega) only [↓reduceIte, cI_lt, hc8]
    exact dk_ex_run (r4 y (g3 y hk))
theorem md_96_112 {p : Nat} (hp : p < 16) {l : Int64} {k q : Nat} : ∀ (j i : Nat), i + j = 16 → ∀ (m : dkM), ∃ m', dk_Ev L (96, 112, [(2, vI (cI i)), (0, vR (12, 0, 0)), (1, vI (cI p))], [], (m, l, .inl (), k, q)) ((dk_up (dk_up (dk_up (dk_up (dk_up m' (13, 6, 0) p (cI 9)) (13, 3, 0) p (cI 0)) (13, 5, 0) p (cJ 0)) (13, 10, 0) p (cI 0)) (13, 15, 0) p (cI 0), l, .inl (), k, q), .inl none) ∧ (∀ r, i ≤ r → r < 16 → m' (16, 19, 0) r = cI 0) ∧ (∀ a f, a ≠ (16, 19, 0) → m' a f = m a f) ∧ (∀ r, r < i → m' (16, 19, 0) r = m (16, 19, 0) r) := by
  intro j
  induction j with
  | zero =>
    intro i hi m
    have hi : i = 16 := by omega
    subst hi
    refine ⟨m, sg_96_112 ⟨rfl, rfl, rfl, rfl, rfl, rfl, trivial⟩ rfl ?_, fun r h1 h2 => by omega, fun _ _ _ => rfl, fun _ _ => rfl⟩
    simp (disch := omega) only [↓reduceIte, cI_lt, cI_nat, le_F, or_self, Nat.not_lt_zero, Nat.lt_irrefl]
    exact dk_ex_some
  | succ j ih =>
    intro i hi m
    have hi16 : i < 16 := by omega
    obtain ⟨m', ev, h1, h2, h3⟩ := ih (i + 1) (by omega) (dk_up m (16, 19, 0) i (cI 0))
    refine ⟨m', sg_96_112 ⟨rfl, rfl, rfl, rfl, rfl, rfl, trivial⟩ rfl ?_, fun r hr hr2 => ?_, fun a f h => ?_, fun r hr => ?_⟩
    · simp (disch := omega) only [↓reduceIte, cI_lt, cI_nat, cI_add, hi16, le_F, or_self, Nat.not_lt_zero]
      exact dk_ex_run ev
    · by_cases e : r = i
      · subst e
        rw [h3 r (by omega), dk_up_eq]
      · exact h1 r (by omega) hr2
    · rw [h2 a f h, dk_up, if_neg (fun e => h e.1)]
    · rw [h3 r (by omega), dk_up, if_neg (fun e => by omega)]
/-- leave -/
theorem md_end {p : Nat} {m : dkM} {l : Int64} {k q : Nat} (hp : p < 16) (hM : PM N V E W T m) (hB : BD N E W T) : ∃ m', dk_Ev L (96, 0, [(0, vR (12, 0, 0)), (1, vI (cI p))], [], (m, l, .inl (), k, q)) ((m', l, .inl (), k, q), .inl none) ∧ PM (nE N p) V (dk_rm E p) W T m' ∧ FrS m m' := by
  obtain ⟨m1, g1, g2, g3⟩ := md_96_2 (L := L) (E := E) (l := l) (k := k) (q := q) hp (fun c hc => ⟨(hB.2.2.1 c hc).1, fun e he => ((hB.2.2.1 c hc).2 e he).1⟩) 8 0 rfl m (fun d hd => by simpa [PMl, dk_rc] using hM.2.2.1 d hd)
  obtain ⟨m2, ev, f1, f2, -⟩ := md_96_112 (L := L) (p := p) (l := l) (k := k) (q := q) hp 16 0 rfl m1
  refine ⟨_, sg_96_0 ⟨rfl, rfl, rfl, rfl, trivial⟩ rfl (dk_ex_run (g3 _ ev)), ?_, ?_⟩
  · obtain ⟨a1, a2, a3, a4, a5⟩ := hM
    have k2 : ∀ i f, i ≠ 23 → i ≠ 24 → i ≠ 25 → m2 (13, i, 0) f = m (13, i, 0) f := fun i f h1 h2 h3 => by
      rw [f2 _ _ (by simp), g2 _ _ (by simp [h1]) (by simp [h2]) (by simp [h3])]
    have k6 : ∀ i f, i ≠ 19 → m2 (16, i, 0) f = m (16, i, 0) f := fun i f h => by
      rw [f2 _ _ (by simp [h]), g2 _ _ (by simp) (by simp) (by simp)]
    have k0 : ∀ f, m2 (12, 0, 0) f = m (12, 0, 0) f := fun f => by
      rw [f2 _ _ (by simp), g2 _ _ (by simp) (by simp) (by simp)]
    have kl : ∀ i f, m2 (13, i, 0) f = m1 (13, i, 0) f := fun i f => f2 _ _ (by simp)
    refine ⟨fun r hr => ?_, fun i hi => ?_, fun c hc => ?_, ?_, ?_⟩
    · have h1 := a1 r hr
      have h2 := f1 r (by omega) hr
      by_cases e : r = p
      · subst e
        simp (disch := decide) [PMp, dk_up, nE, nU, k2, k6] at h1 ⊢
        simp [h1]
      · simp (disch := decide) [PMp, dk_up, nE, nU, e, hr, k2, k6] at h1 ⊢
        simp [h1, h2]
        grind
    · simpa (disch := decide) [PMg, dk_up, nE, nU, k2, k6] using a2 i hi
    · have := g1 c hc
      simpa (disch := decide) [PMl, dk_up, kl] using this
    · simpa (disch := decide) [PMw, dk_up, k2, k0] using a4
    · simpa (disch := decide) [dk_up, k0] using a5
  · refine FrS_up ⟨Nat.le_of_ble_eq_true rfl, Nat.ne_of_beq_eq_false rfl⟩ rfl (FrS_up ⟨Nat.le_of_ble_eq_true rfl, Nat.ne_of_beq_eq_false rfl⟩ rfl (FrS_up ⟨Nat.le_of_ble_eq_true rfl, Nat.ne_of_beq_eq_false rfl⟩ rfl (FrS_up ⟨Nat.le_of_ble_eq_true rfl, Nat.ne_of_beq_eq_false rfl⟩ rfl (FrS_up ⟨Nat.le_of_ble_eq_true rfl, Nat.ne_of_beq_eq_false rfl⟩ rfl ?_))))
    refine ⟨fun a f ha => ?_, by rw [f2 _ _ (by simp), g2 _ _ (by simp) (by simp) (by simp)]⟩
    rw [f2 a f (fun h => by rw [h] at ha; simp at ha), g2 a f (fun h => by rw [h] at ha; simp at ha) (fun h => by rw [h] at ha; simp at ha) (fun h => by rw [h] at ha; simp at ha)]
end
