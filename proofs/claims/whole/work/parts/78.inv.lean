/-! what holds of the desk between two accesses -/
def dk_cr (N : dkNN) (p : Nat) : Nat := if N 1 p = 0 then 0 else if N 3 p = 9 then 1 else if N 4 p = 3 ∨ N 3 p = 6 then 0 else 2
def dk_sm (f : Nat → Nat) : Nat → Nat
  | 0 => 0
  | k + 1 => dk_sm f k + f k
theorem dk_sm_le {f g : Nat → Nat} : ∀ k, (∀ i, i < k → f i ≤ g i) → dk_sm f k ≤ dk_sm g k
  | 0, _ => Nat.le_refl _
  | k + 1, h => Nat.add_le_add (dk_sm_le k (fun i hi => h i (by omega))) (h k (by omega))
theorem dk_sm_one {f g : Nat → Nat} {p : Nat} : ∀ k, p < k → (∀ i, i < k → i ≠ p → f i ≤ g i) → dk_sm f k + g p ≤ dk_sm g k + f p
  | 0, h, _ => by omega
  | k + 1, h, hf => by
    by_cases e : p = k
    · subst e
      have := dk_sm_le (f := f) (g := g) p (fun i hi => hf i (by omega) (by omega))
      simp only [dk_sm]; omega
    · have := dk_sm_one k (by omega) (fun i hi => hf i (by omega))
      have := hf k (by omega) (by omega)
      simp only [dk_sm]; omega
theorem dk_sm_two {f g : Nat → Nat} {p w : Nat} {k : Nat} (hp : p < k) (hw : w < k) (hn : w ≠ p) (hf : ∀ i, i < k → i ≠ p → i ≠ w → f i ≤ g i) : dk_sm f k + g p + g w ≤ dk_sm g k + f p + f w := by
  have h1 := dk_sm_one (f := f) (g := fun i => if i = p then f p else g i) (p := w) k hw (fun i hi hw => by
    by_cases e : i = p
    · simp [e]
    · simpa [e] using hf i hi e hw)
  have h2 := dk_sm_one (f := fun i => if i = p then f p else g i) (g := g) (p := p) k hp (fun i hi e => by simp [e])
  simp [hn] at h1 h2
  omega
theorem dk_pig : ∀ (n : Nat) (l : List Nat), l.Nodup → (∀ x ∈ l, x < n) → l.length ≤ n
  | 0, l, _, h => by
    cases l with
    | nil => exact Nat.le_refl _
    | cons a l => exact absurd (h a List.mem_cons_self) (by omega)
  | n + 1, l, hd, h => by
    have h1 := dk_pig n (l.erase n) (hd.erase n) (fun x hx => by
      have := (hd.mem_erase_iff).1 hx
      have := h x this.2
      omega)
    have := List.length_erase (a := n) (l := l)
    split at this <;> omega
def IVp (N : dkNN) (p : Nat) : Prop :=
  (N 0 p = 0 → N 3 p = 9) ∧ (N 3 p = 9 → N 4 p = 0) ∧ (N 4 p ≠ 2 → N 6 p = 0) ∧ (N 3 p = 8 → N 4 p = 0 ∨ N 4 p = 3) ∧
  (N 3 p = 3 ∨ N 3 p = 4 → p < N 11 p → N 4 p = 2 ∧ N 6 p = p + 1) ∧
  (N 3 p = 3 ∨ N 3 p = 4 → N 11 p < p → N 4 (N 11 p) = 2 ∧ N 6 (N 11 p) = p + 1 ∧ N 12 p = N 5 (N 11 p)) ∧
  (N 3 p = 5 → N 4 p = 2 ∧ N 6 p = p + 1 ∧ N 4 (N 11 p) = 2 ∧ N 6 (N 11 p) = p + 1 ∧ N 12 p = N 5 (N 11 p)) ∧
  (N 3 p = 6 → N 4 p = 2 ∧ N 6 p = p + 1 ∧ N 14 p = N 11 p ∧ N 15 p = N 8 p) ∧
  (2 ≤ N 3 p ∧ N 3 p ≤ 5 → N 12 p ≤ N 5 (N 11 p) ∧ (N 12 p = N 5 (N 11 p) → N 3 (N 11 p) ≠ 9 → 1 ≤ N 1 (N 11 p)))
def IVe (N : dkNN) (e : Nat × Nat) : Prop := e.1 < 64 ∧ e.2 = N 5 (e.1 / 4) ∧ N 3 (e.1 / 4) ≠ 9 ∧ 1 ≤ N 1 (e.1 / 4) ∧ (N 3 (e.1 / 4) = 0 → e.1 % 4 < N 8 (e.1 / 4))
def IVl (N : dkNN) (E : dkEE) (c : Nat) : Prop := ((E c).map (fun e => e.1)).Nodup ∧ ∀ e ∈ E c, IVe N e
def IV (N : dkNN) (E : dkEE) (W : dkWW) (T n : Nat) : Prop := (∀ p, p < 16 → BDp N T p) ∧ (∀ i, i < 64 → BDg N i) ∧ (∀ p, p < 16 → IVp N p) ∧ (∀ c, c < 8 → IVl N E c) ∧ 4 * W.length + dk_sm (dk_cr N) 16 ≤ n ∧ T ≤ n ∧ (∀ p, p < 16 → N 5 p ≤ n) ∧ n ≤ 512
theorem IV_BD {N : dkNN} {E : dkEE} {W : dkWW} {T n : Nat} (h : IV N E W T n) : BD N E W T := by
  obtain ⟨h1, h2, h3, h4, h5, h6, h7, h8⟩ := h
  refine ⟨h1, h2, fun c hc => ⟨?_, fun e he => ?_⟩, by omega, by omega⟩
  · have := dk_pig 64 _ (h4 c hc).1 (fun x hx => by
      obtain ⟨e, he, rfl⟩ := List.mem_map.1 hx
      exact ((h4 c hc).2 e he).1)
    simpa using this
  · have := (h4 c hc).2 e he
    have h7 := h7 (e.1 / 4) (by have := this.1; omega)
    exact ⟨this.1, by rw [this.2.1]; omega⟩
theorem IV_up {N : dkNN} {E : dkEE} {W : dkWW} {T n k : Nat} (h : IV N E W T n) (hk : n ≤ k) (h5 : k ≤ 512) : IV N E W T k := by
  obtain ⟨h1, h2, h3, h4, h5, h6, h7, h8⟩ := h
  exact ⟨h1, h2, h3, h4, by omega, by omega, fun p hp => by have := h7 p hp; omega, by omega⟩
/-- the private cells of a process -/
def nQ (N : dkNN) (p x3 x8 x9 x10 : Nat) : dkNN := nU (nU (nU (nU N 8 p x8) 9 p x9) 10 p x10) 3 p x3
section
variable {N : dkNN} {E : dkEE} {W : dkWW} {T n p : Nat}
theorem IV_pr {x3 x8 x9 x10 : Nat} (hp : p < 16) (h : IV N E W T n) (h9 : N 3 p ≠ 9) (h6 : N 3 p ≠ 6) (h3 : (x3 = 1 ∧ x8 < N 1 p ∧ N 18 (4 * p + x8) = 1 ∧ x9 ≤ 64 ∧ x10 ≤ 1) ∨ x3 = 7 ∨ (x3 = 8 ∧ (N 4 p = 0 ∨ N 4 p = 3)) ∨ (x3 = 4 ∧ N 3 p = 3 ∧ x8 = N 8 p ∧ x9 = N 9 p ∧ x10 ≤ 1)) : IV (nQ N p x3 x8 x9 x10) E W T n := by
  obtain ⟨h1, h2, hI, hE, hS, hT, hV, hn⟩ := h
  refine ⟨fun r hr => ?_, fun i hi => ?_, fun r hr => ?_, fun c hc => ⟨(hE c hc).1, fun e he => ?_⟩, ?_, hT, fun r hr => ?_, hn⟩
  · have := h1 r hr
    by_cases e : r = p
    · subst e
      rcases h3 with ⟨rfl, h3⟩ | rfl | ⟨rfl, h3⟩ | ⟨rfl, h3⟩ <;> simp [BDp, nQ, nU] at this ⊢ <;> grind
    · simpa [BDp, nQ, nU, e] using this
  · simpa [BDg, nQ, nU] using h2 i hi
  · have := hI r hr
    by_cases e : r = p
    · subst e
      rcases h3 with ⟨rfl, h3⟩ | rfl | ⟨rfl, h3⟩ | ⟨rfl, h3⟩ <;> simp [IVp, nQ, nU] at this ⊢ <;> grind
    · simp [IVp, nQ, nU, e] at this ⊢
      grind
  · have := (hE c hc).2 e he
    simp [IVe, nQ, nU] at this ⊢
    grind
  · have := dk_sm_le (f := dk_cr (nQ N p x3 x8 x9 x10)) (g := dk_cr N) 16 (fun i hi => by
      simp [dk_cr, nQ, nU]
      grind)
    omega
  · simpa [nQ, nU] using hV r hr
end
section
variable {N : dkNN} {E : dkEE} {W : dkWW} {T n p : Nat}
theorem IV_room (hp : p < 16) (h : IV N E W T n) (h0 : N 3 p = 0) {c : Nat} (hc : c < 8) : (E c).length ≤ 63 := by
  obtain ⟨h1, h2, hI, hE, hS, hT, hV, hn⟩ := h
  have hb := h1 p hp
  have h8 : N 8 p < N 1 p := (hb.2.2.2.2.2.2.2.2.1 (by omega)).1
  have h4 : N 1 p ≤ 4 := hb.2.1
  have hd : ((4 * p + N 8 p) :: (E c).map (fun e => e.1)).Nodup := by
    refine List.nodup_cons.2 ⟨fun hm => ?_, (hE c hc).1⟩
    obtain ⟨e, he, hx⟩ := List.mem_map.1 hm
    have hv := (hE c hc).2 e he
    have e1 : e.1 / 4 = p := by omega
    have := hv.2.2.2.2 (by rw [e1]; exact h0)
    rw [e1] at this
    omega
  have := dk_pig 64 _ hd (fun x hx => by
    rcases List.mem_cons.1 hx with rfl | hx
    · omega
    · obtain ⟨e, he, rfl⟩ := List.mem_map.1 hx
      exact ((hE c hc).2 e he).1)
  simp at this
  omega
theorem IV_app {c x3 x8 x9 x10 : Nat} (hp : p < 16) (h : IV N E W T n) (h0 : N 3 p = 0) (hx : x8 < N 1 p ∧ N 18 (4 * p + x8) = 1 ∧ x9 ≤ 64 ∧ x10 ≤ 1) (h3 : (x3 = 0 ∧ N 8 p < x8) ∨ x3 = 1) : IV (nQ N p x3 x8 x9 x10) (eU E c (E c ++ [(4 * p + N 8 p, N 5 p)])) W T n := by
  obtain ⟨h1, h2, hI, hE, hS, hT, hV, hn⟩ := h
  have hb := h1 p hp
  have h8 : N 8 p < N 1 p := (hb.2.2.2.2.2.2.2.2.1 (by omega)).1
  have h4 : N 1 p ≤ 4 := hb.2.1
  have d1 : (4 * p + N 8 p) / 4 = p := by omega
  have d2 : (4 * p + N 8 p) % 4 = N 8 p := by omega
  have key : ∀ c, c < 8 → ∀ e ∈ E c, IVe (nQ N p x3 x8 x9 x10) e := fun c hc e he => by
    have := (hE c hc).2 e he
    rcases h3 with ⟨rfl, h3⟩ | rfl <;> simp [IVe, nQ, nU] at this ⊢ <;> grind
  refine ⟨fun r hr => ?_, fun i hi => ?_, fun r hr => ?_, fun d hd => ?_, ?_, hT, fun r hr => ?_, hn⟩
  · have := h1 r hr
    by_cases e : r = p
    · subst e
      rcases h3 with ⟨rfl, h3⟩ | rfl <;> simp [BDp, nQ, nU] at this ⊢ <;> grind
    · simpa [BDp, nQ, nU, e] using this
  · simpa [BDg, nQ, nU] using h2 i hi
  · have := hI r hr
    by_cases e : r = p
    · subst e
      rcases h3 with ⟨rfl, h3⟩ | rfl <;> simp [IVp, nQ, nU] at this ⊢ <;> grind
    · simp [IVp, nQ, nU, e] at this ⊢
      grind
  · by_cases e : d = c
    · subst e
      have he : eU E d (E d ++ [(4 * p + N 8 p, N 5 p)]) d = E d ++ [(4 * p + N 8 p, N 5 p)] := if_pos rfl
      refine ⟨?_, fun e hm => ?_⟩
      · rw [he, List.map_append]
        refine List.nodup_append.2 ⟨(hE d hd).1, by simp, fun a ha b hb' hab => ?_⟩
        simp at hb'
        obtain ⟨e, he, hx⟩ := List.mem_map.1 ha
        have hv := (hE d hd).2 e he
        have e1 : e.1 / 4 = p := by omega
        have := hv.2.2.2.2 (by rw [e1]; exact h0)
        rw [e1] at this
        omega
      · rw [he] at hm
        rcases List.mem_append.1 hm with hm | hm
        · exact key d hd e hm
        · simp at hm
          subst hm
          rcases h3 with ⟨rfl, h3⟩ | rfl <;> simp [IVe, nQ, nU, d1, d2] <;> omega
    · have he : eU E c (E c ++ [(4 * p + N 8 p, N 5 p)]) d = E d := if_neg e
      refine ⟨by rw [he]; exact (hE d hd).1, fun e hm => ?_⟩
      rw [he] at hm
      exact key d hd e hm
  · have := dk_sm_le (f := dk_cr (nQ N p x3 x8 x9 x10)) (g := dk_cr N) 16 (fun i hi => by
      simp [dk_cr, nQ, nU]
      grind)
    omega
  · simpa [nQ, nU] using hV r hr
theorem IV_found {c : Nat} {e : Nat × Nat} (hp : p < 16) (hc : c < 8) (h : IV N E W T n) (h1 : N 3 p = 1) (he : e ∈ E c) (hn : e.1 / 4 ≠ p) (h9 : N 9 p ≤ 63) : IV (nU (nU (nU (nU N 11 p (e.1 / 4)) 12 p e.2) 13 p (e.1 % 4)) 3 p 2) E W T n := by
  have hB := IV_BD h
  obtain ⟨h1, h2, hI, hE, hS, hT, hV, hn⟩ := h
  have hv := (hE c hc).2 e he
  have hv2 := ((hB.2.2.1 c hc).2 e he)
  refine ⟨fun r hr => ?_, fun i hi => ?_, fun r hr => ?_, fun c hc => ⟨(hE c hc).1, fun e he => ?_⟩, ?_, hT, fun r hr => ?_, hn⟩
  · have := h1 r hr
    by_cases e : r = p
    · subst e
      simp [BDp, nU] at this ⊢
      grind
    · simpa [BDp, nU, e] using this
  · simpa [BDg, nU] using h2 i hi
  · have := hI r hr
    by_cases e : r = p
    · subst e
      simp [IVp, IVe, nU] at this hv ⊢
      grind
    · simp [IVp, nU, e] at this ⊢
      grind
  · have := (hE c hc).2 e he
    simp [IVe, nU] at this ⊢
    grind
  · have := dk_sm_le (f := dk_cr (nU (nU (nU (nU N 11 p (e.1 / 4)) 12 p e.2) 13 p (e.1 % 4)) 3 p 2)) (g := dk_cr N) 16 (fun i hi => by
      simp [dk_cr, nU]
      grind)
    omega
  · simpa [nU] using hV r hr
/-- a state is claimed -/
theorem IV_claim {f x3 : Nat} (hp : p < 16) (h : IV N E W T n) (hf : f < 16) (h4 : N 4 f = 1) (hr : f = p ∨ N 5 f = N 12 p) (hx : (x3 = 3 ∧ N 3 p = 2 ∧ ((f = p ∧ p < N 11 p) ∨ (f = N 11 p ∧ N 11 p < p))) ∨ (x3 = 5 ∧ N 3 p = 3 ∧ ((f = p ∧ N 11 p < p) ∨ (f = N 11 p ∧ p < N 11 p)))) : IV (nU (nU (nU N 4 f 2) 6 f (p + 1)) 3 p x3) E W T n := by
  obtain ⟨h1, h2, hI, hE, hS, hT, hV, hn⟩ := h
  have hbp := h1 p hp
  have hip := hI p hp
  have hif := hI f hf
  refine ⟨fun r hr => ?_, fun i hi => ?_, fun r hr => ?_, fun c hc => ⟨(hE c hc).1, fun e he => ?_⟩, ?_, hT, fun r hr => ?_, hn⟩
  · have := h1 r hr
    rcases hx with ⟨rfl, hx⟩ | ⟨rfl, hx⟩ <;> simp [BDp, nU] at this hbp ⊢ <;> grind
  · simpa [BDg, nU] using h2 i hi
  · have hv := hI r hr
    have hb := h1 r hr
    rcases hx with ⟨rfl, hx⟩ | ⟨rfl, hx⟩ <;> by_cases e : r = p <;> simp [IVp, BDp, nU, e] at hv hb hbp hip hif ⊢ <;> grind
  · have := (hE c hc).2 e he
    simp [IVe, nU] at this ⊢
    grind
  · have := dk_sm_le (f := dk_cr (nU (nU (nU N 4 f 2) 6 f (p + 1)) 3 p x3)) (g := dk_cr N) 16 (fun i hi => by
      simp [dk_cr, nU]
      grind)
    omega
  · simpa [nU] using hV r hr
end
section
variable {N : dkNN} {E : dkEE} {W : dkWW} {T n p : Nat}
/-- the first claimed is given back -/
theorem IV_back {f x9 : Nat} (hp : p < 16) (h : IV N E W T n) (h4 : N 3 p = 4) (hx : (f = p ∧ p < N 11 p) ∨ (f = N 11 p ∧ N 11 p < p)) (h9 : x9 ≤ 64) : IV (nU (nU (nU (nU N 4 f 1) 6 f 0) 9 p x9) 3 p 1) E W T n := by
  obtain ⟨h1, h2, hI, hE, hS, hT, hV, hn⟩ := h
  have hbp := h1 p hp
  have hip := hI p hp
  have hf : f < 16 := by rcases hx with ⟨rfl, hx⟩ | ⟨rfl, hx⟩ <;> omega
  have hif := hI f hf
  refine ⟨fun r hr => ?_, fun i hi => ?_, fun r hr => ?_, fun c hc => ⟨(hE c hc).1, fun e he => ?_⟩, ?_, hT, fun r hr => ?_, hn⟩
  · have := h1 r hr
    simp [BDp, nU] at this hbp ⊢
    grind
  · simpa [BDg, nU] using h2 i hi
  · have hv := hI r hr
    by_cases e : r = p
    · simp [IVp, BDp, nU, e] at hv hbp hip hif ⊢
      grind
    · have hq : N 4 f = 2 ∧ N 6 f = p + 1 := by simp [IVp] at hip; grind
      clear hip hif hbp h1 hI
      simp [IVp, nU, e] at hv ⊢
      refine ⟨?_, ?_, ?_, ?_, ?_, ?_, ?_, ?_, ?_⟩ <;> grind
  · have := (hE c hc).2 e he
    simp [IVe, nU] at this ⊢
    grind
  · simp [IVp] at hip
    have := dk_sm_le (f := dk_cr (nU (nU (nU (nU N 4 f 1) 6 f 0) 9 p x9) 3 p 1)) (g := dk_cr N) 16 (fun i hi => by
      simp [dk_cr, nU]
      grind)
    omega
  · simpa [nU] using hV r hr
/-- own state paired -/
theorem IV_close (hp : p < 16) (h : IV N E W T n) (h6 : N 3 p = 6) : IV (nU (nU (nU N 4 p 3) 6 p 0) 3 p 8) E W T n := by
  obtain ⟨h1, h2, hI, hE, hS, hT, hV, hn⟩ := h
  have hbp := h1 p hp
  have hip := hI p hp
  refine ⟨fun r hr => ?_, fun i hi => ?_, fun r hr => ?_, fun c hc => ⟨(hE c hc).1, fun e he => ?_⟩, ?_, hT, fun r hr => ?_, hn⟩
  · have := h1 r hr
    simp [BDp, nU] at this hbp ⊢
    grind
  · simpa [BDg, nU] using h2 i hi
  · have hv := hI r hr
    have hb := h1 r hr
    by_cases e : r = p <;> simp [IVp, BDp, nU, e] at hv hb hbp hip ⊢ <;> grind
  · have := (hE c hc).2 e he
    simp [IVe, nU] at this ⊢
    grind
  · have := dk_sm_le (f := dk_cr (nU (nU (nU N 4 p 3) 6 p 0) 3 p 8)) (g := dk_cr N) 16 (fun i hi => by
      simp [dk_cr, nU]
      grind)
    omega
  · simpa [nU] using hV r hr
/-- the other is told -/
def nT (N : dkNN) (p : Nat) : dkNN := nU (nU (nU (nU (nU (nU (nU N 14 (N 11 p) p) 15 (N 11 p) (N 13 p)) 4 (N 11 p) 3) 6 (N 11 p) 0) 14 p (N 11 p)) 15 p (N 8 p)) 3 p 6
theorem IV_tell {x : Nat × Nat × Nat × Nat × Int32} (hp : p < 16) (h : IV N E W T n) (h5 : N 3 p = 5) : IV (nT N p) E (W ++ [x]) T n ∧ W.length ≤ 127 := by
  obtain ⟨h1, h2, hI, hE, hS, hT, hV, hn⟩ := h
  have hbp := h1 p hp
  have hip := hI p hp
  have hw : N 11 p < 16 ∧ N 11 p ≠ p := by simp [BDp] at hbp; grind
  have hbw := h1 _ hw.1
  have hiw := hI _ hw.1
  have hsum : dk_sm (dk_cr (nT N p)) 16 + 4 ≤ dk_sm (dk_cr N) 16 := by
    have := dk_sm_two (f := dk_cr (nT N p)) (g := dk_cr N) hp hw.1 hw.2 (fun i hi e1 e2 => by
      simp [dk_cr, nT, nU, e1, e2])
    have a1 : dk_cr N p = 2 := by simp [IVp, BDp] at hip hbp; simp [dk_cr]; grind
    have a2 : dk_cr N (N 11 p) = 2 := by simp [IVp, BDp] at hip hbp hiw hbw; simp [dk_cr]; grind
    have a3 : dk_cr (nT N p) p = 0 := by simp [dk_cr, nT, nU]
    have a4 : dk_cr (nT N p) (N 11 p) = 0 := by simp [IVp, BDp] at hip hbp hiw hbw; simp [dk_cr, nT, nU, hw.2]; grind
    omega
  refine ⟨⟨fun r hr => ?_, fun i hi => ?_, fun r hr => ?_, fun c hc => ⟨(hE c hc).1, fun e he => ?_⟩, ?_, hT, fun r hr => ?_, hn⟩, by omega⟩
  · have := h1 r hr
    simp [BDp, nU, nT] at this hbp ⊢
    grind
  · simpa [BDg, nU, nT] using h2 i hi
  · have hv := hI r hr
    have hb := h1 r hr
    by_cases e : r = p
    · simp [IVp, BDp, nU, nT, e] at hv hb hbp hip hbw hiw ⊢
      grind
    · have hq : N 4 (N 11 p) = 2 ∧ N 6 (N 11 p) = p + 1 := by simp [IVp] at hip; grind
      clear hip hiw hbp hbw hb h1 hI
      simp [IVp, nU, nT, e] at hv ⊢
      refine ⟨?_, ?_, ?_, ?_, ?_, ?_, ?_, ?_, ?_⟩ <;> grind
  · have := (hE c hc).2 e he
    simp [IVe, nU, nT] at this ⊢
    grind
  · simp; omega
  · simpa [nU, nT] using hV r hr
end
section
variable {N : dkNN} {E : dkEE} {W : dkWW} {T n p : Nat}
theorem IV_spawn (hp : p < 16) (h : IV N E W T n) (h5 : n + 1 ≤ 512) : IV (nU N 0 p 1) E W T (n + 1) := by
  obtain ⟨h1, h2, hI, hE, hS, hT, hV, hn⟩ := h
  refine ⟨fun r hr => ?_, fun i hi => ?_, fun r hr => ?_, fun c hc => ⟨(hE c hc).1, fun e he => ?_⟩, ?_, by omega, fun r hr => ?_, h5⟩
  · have := h1 r hr
    simp [BDp, nU] at this ⊢
    grind
  · simpa [BDg, nU] using h2 i hi
  · have hv := hI r hr
    simp [IVp, nU] at hv ⊢
    grind
  · have := (hE c hc).2 e he
    simpa [IVe, nU] using this
  · have := dk_sm_le (f := dk_cr (nU N 0 p 1)) (g := dk_cr N) 16 (fun i hi => by
      simp [dk_cr, nU])
    omega
  · have := hV r hr
    simp [nU]; omega
theorem IV_tmo {z : Nat} (hz : z ≤ 1000) (h : IV N E W T n) (h5 : n + 1 ≤ 512) : IV (nU N 2 p z) E W T (n + 1) := by
  obtain ⟨h1, h2, hI, hE, hS, hT, hV, hn⟩ := h
  refine ⟨fun r hr => ?_, fun i hi => ?_, fun r hr => ?_, fun c hc => ⟨(hE c hc).1, fun e he => ?_⟩, ?_, by omega, fun r hr => ?_, h5⟩
  · have := h1 r hr
    simp [BDp, nU] at this ⊢
    grind
  · simpa [BDg, nU] using h2 i hi
  · simpa [IVp, nU] using hI r hr
  · have := (hE c hc).2 e he
    simpa [IVe, nU] using this
  · have := dk_sm_le (f := dk_cr (nU N 2 p z)) (g := dk_cr N) 16 (fun i hi => by
      simp [dk_cr, nU])
    omega
  · have := hV r hr
    simp [nU]; omega
/-- a guard is added -/
def nG (N : dkNN) (p a b o : Nat) : dkNN := nU (nU (nU (nU N 16 (4 * p + N 1 p) a) 17 (4 * p + N 1 p) b) 18 (4 * p + N 1 p) o) 1 p (N 1 p + 1)
theorem IV_guard {a b o : Nat} (hp : p < 16) (h : IV N E W T n) (h9 : N 3 p = 9) (h1 : N 1 p < 4) (ha : a ≤ 1) (hb : b < 8) (ho : o ≤ 1) (h5 : n + 1 ≤ 512) : IV (nG N p a b o) E W T (n + 1) := by
  have hg := h1
  obtain ⟨h1, h2, hI, hE, hS, hT, hV, hn⟩ := h
  refine ⟨fun r hr => ?_, fun i hi => ?_, fun r hr => ?_, fun c hc => ⟨(hE c hc).1, fun e he => ?_⟩, ?_, by omega, fun r hr => ?_, h5⟩
  · have := h1 r hr
    by_cases e : r = p
    · subst e
      simp [BDp, nU, nG] at this ⊢
      grind
    · have e2 : N 3 r ≤ 6 → ¬ 4 * r + N 8 r = 4 * p + N 1 p := fun h6 h => by
        simp [BDp] at this
        omega
      simp [BDp, nU, nG, e] at this ⊢
      grind
  · have := h2 i hi
    simp [BDg, nU, nG] at this ⊢
    grind
  · have hv := hI r hr
    have hip := hI p hp
    simp [IVp, nU, nG] at hv hip ⊢
    grind
  · have := (hE c hc).2 e he
    simp [IVe, nU, nG] at this ⊢
    grind
  · have := dk_sm_one (f := dk_cr (nG N p a b o)) (g := dk_cr N) 16 hp (fun i hi e => by
      simp [dk_cr, nU, nG, e])
    have a1 : dk_cr (nG N p a b o) p = 1 := by simp [dk_cr, nU, nG, h9]
    omega
  · have := hV r hr
    simp [nU, nG]; omega
/-- an offer begins -/
theorem IV_offer {x3 x8 : Nat} (hp : p < 16) (h : IV N E W T n) (h0 : N 0 p = 1) (h9 : N 3 p = 9) (hx : (x3 = 7 ∧ x8 = N 8 p) ∨ (x3 = 0 ∧ x8 < N 1 p ∧ N 18 (4 * p + x8) = 1)) (h5 : n + 1 ≤ 512) : IV (nU (nU (nU (nU (nU (nU N 5 p (N 5 p + 1)) 4 p 1) 6 p 0) 7 p 0) 8 p x8) 3 p x3) E W T (n + 1) := by
  obtain ⟨h1, h2, hI, hE, hS, hT, hV, hn⟩ := h
  have hvp := hV p hp
  have hip := hI p hp
  refine ⟨fun r hr => ?_, fun i hi => ?_, fun r hr => ?_, fun c hc => ⟨(hE c hc).1, fun e he => ?_⟩, ?_, by omega, fun r hr => ?_, h5⟩
  · have := h1 r hr
    by_cases e : r = p
    · subst e
      rcases hx with ⟨rfl, hx⟩ | ⟨rfl, hx⟩ <;> simp [BDp, nU] at this ⊢ <;> grind
    · simpa [BDp, nU, e] using this
  · simpa [BDg, nU] using h2 i hi
  · have hv := hI r hr
    by_cases e : r = p
    · subst e
      rcases hx with ⟨rfl, hx⟩ | ⟨rfl, hx⟩ <;> simp [IVp, nU] at hv ⊢ <;> grind
    · have hb := h1 r hr
      clear h1 hI
      rcases hx with ⟨rfl, hx⟩ | ⟨rfl, hx⟩ <;> simp [IVp, nU, e] at hv hip ⊢ <;> refine ⟨?_, ?_, ?_, ?_, ?_, ?_, ?_, ?_, ?_⟩ <;> grind
  · have := (hE c hc).2 e he
    simp [IVe, nU] at this ⊢
    grind
  · have := dk_sm_one (f := dk_cr (nU (nU (nU (nU (nU (nU N 5 p (N 5 p + 1)) 4 p 1) 6 p 0) 7 p 0) 8 p x8) 3 p x3)) (g := dk_cr N) 16 hp (fun i hi e => by
      simp [dk_cr, nU, e])
    have a1 : dk_cr (nU (nU (nU (nU (nU (nU N 5 p (N 5 p + 1)) 4 p 1) 6 p 0) 7 p 0) 8 p x8) 3 p x3) p ≤ dk_cr N p + 1 := by
      rcases hx with ⟨rfl, hx⟩ | ⟨rfl, hx⟩ <;> simp [dk_cr, nU, h9] <;> grind
    omega
  · have := hV r hr
    simp [nU]; grind
/-- a tick -/
abbrev dk_due (N : dkNN) (i : Nat) : Prop := N 3 i ≠ 9 ∧ N 2 i ≠ 0 ∧ N 2 i ≤ N 7 i + 1 ∧ N 4 i = 1
def nK (N : dkNN) (k : Nat) : dkNN := fun f i => if i < k ∧ f = 7 ∧ N 3 i ≠ 9 then N 7 i + 1 else if i < k ∧ f = 4 ∧ dk_due N i then 0 else N f i
theorem IV_tick (h : IV N E W T n) (h5 : n + 1 ≤ 512) : IV (nK N 16) E W (T + 1) (n + 1) := by
  obtain ⟨h1, h2, hI, hE, hS, hT, hV, hn⟩ := h
  have e4 : ∀ i, nK N 16 4 i = if i < 16 ∧ dk_due N i then 0 else N 4 i := fun i => by simp [nK]
  have e7 : ∀ i, nK N 16 7 i = if i < 16 ∧ N 3 i ≠ 9 then N 7 i + 1 else N 7 i := fun i => by simp [nK]
  have en : ∀ f i, f ≠ 4 → f ≠ 7 → nK N 16 f i = N f i := fun f i h1 h2 => by simp [nK, h1, h2]
  have e0 := fun i => en 0 i (by decide) (by decide)
  have e1 := fun i => en 1 i (by decide) (by decide)
  have e2 := fun i => en 2 i (by decide) (by decide)
  have e3 := fun i => en 3 i (by decide) (by decide)
  have e5 := fun i => en 5 i (by decide) (by decide)
  have e6 := fun i => en 6 i (by decide) (by decide)
  have e8 := fun i => en 8 i (by decide) (by decide)
  have e9 := fun i => en 9 i (by decide) (by decide)
  have e10 := fun i => en 10 i (by decide) (by decide)
  have e11 := fun i => en 11 i (by decide) (by decide)
  have e12 := fun i => en 12 i (by decide) (by decide)
  have e13 := fun i => en 13 i (by decide) (by decide)
  have e14 := fun i => en 14 i (by decide) (by decide)
  have e15 := fun i => en 15 i (by decide) (by decide)
  have e16 := fun i => en 16 i (by decide) (by decide)
  have e17 := fun i => en 17 i (by decide) (by decide)
  have e18 := fun i => en 18 i (by decide) (by decide)
  refine ⟨fun r hr => ?_, fun i hi => ?_, fun r hr => ?_, fun c hc => ⟨(hE c hc).1, fun e he => ?_⟩, ?_, by omega, fun r hr => ?_, h5⟩
  · have := h1 r hr
    simp only [BDp, e0, e1, e2, e3, e4, e5, e6, e7, e8, e9, e10, e11, e12, e13, e14, e15, e16, e17, e18] at this ⊢
    clear h1 hI
    grind
  · simpa only [BDg, e16, e17, e18] using h2 i hi
  · have hv := hI r hr
    simp only [IVp, e0, e1, e2, e3, e4, e5, e6, e7, e8, e9, e10, e11, e12, e13, e14, e15, e16, e17, e18] at hv ⊢
    clear h1 hI e0 e1 e2 e3 e4 e5 e6 e7 e8 e9 e10 e11 e12 e13 e14 e15 e16 e17 e18 en
    simp only [dk_due]
    refine ⟨?_, ?_, ?_, ?_, ?_, ?_, ?_, ?_, ?_⟩ <;> grind
  · have := (hE c hc).2 e he
    simpa only [IVe, e1, e3, e5, e8] using this
  · have := dk_sm_le (f := dk_cr (nK N 16)) (g := dk_cr N) 16 (fun i hi => by
      simp only [dk_cr, e1, e3, e4, dk_due]
      grind)
    omega
  · have := hV r hr
    simp only [e5]; omega
/-- an offer goes -/
def nE (N : dkNN) (p : Nat) : dkNN := nU (nU (nU (nU (nU (fun f i => if f = 10 ∧ i < 16 then 0 else N f i) 4 p 0) 6 p 0) 1 p 0) 2 p 0) 3 p 9
def dk_rm (E : dkEE) (p : Nat) : dkEE := fun c => (E c).filter (fun e => decide (e.1 / 4 ≠ p))
theorem IV_end (hp : p < 16) (h : IV N E W T n) (h4 : N 4 p ≠ 2) (h5 : n + 1 ≤ 512) : IV (nE N p) (dk_rm E p) W T (n + 1) := by
  obtain ⟨h1, h2, hI, hE, hS, hT, hV, hn⟩ := h
  refine ⟨fun r hr => ?_, fun i hi => ?_, fun r hr => ?_, fun c hc => ⟨?_, fun e he => ?_⟩, ?_, by omega, fun r hr => ?_, h5⟩
  · have := h1 r hr
    simp [BDp, nU, nE] at this ⊢
    grind
  · simpa [BDg, nU, nE] using h2 i hi
  · have hv := hI r hr
    by_cases e : r = p
    · subst e
      simp [IVp, nU, nE] at hv ⊢
    · clear h1 hI
      simp [IVp, nU, nE, e] at hv ⊢
      refine ⟨?_, ?_, ?_, ?_, ?_, ?_, ?_, ?_, ?_⟩ <;> grind
  · refine List.Nodup.sublist ?_ (hE c hc).1
    exact List.Sublist.map _ List.filter_sublist
  · have hm := List.mem_filter.1 he
    have := (hE c hc).2 e hm.1
    have hne : e.1 / 4 ≠ p := by simpa using hm.2
    simp [IVe, nU, nE, hne] at this ⊢
    grind
  · have := dk_sm_le (f := dk_cr (nE N p)) (g := dk_cr N) 16 (fun i hi => by
      simp [dk_cr, nU, nE]
      grind)
    omega
  · have := hV r hr
    simp [nU, nE]; omega
end
