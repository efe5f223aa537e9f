/-! the end of a method, and the judgement -/
def dk_Out (ad : dkI → Nat) (s t : State) (y : dkY) (o : Outcome) : Prop := match y.2 with
  | .inl none => o = .returned none
  | .inl (some v) => o = .returned (some (dk_enc ad v)) ∧ dk_vok y.1.2.2.2.1 v
  | .inr e => ∃ (x : Addr) (cell : Cell), o = .threw x ∧ t.heap[x]? = some cell ∧ cell.vm = .none ∧ s.vm.findClass (dk_X e) = some cell.cls
def dk_Fin (D : va_G) (ad : dkI → Nat) (cA : Nat → ClassId) (L : Nat) (xs : Nat → Int32) (H0 : Heap) (below : List Frame) (s : State) (R : Room) (m0 : Nat) (y : dkY) : State → Prop := fun t =>
  ∃ (o : Outcome) (Lc : List Loc) (k n : Nat), t.status = .running ∧ Ended t below o ∧ s.WarmedH t.vm ∧ s.sameButNew ({ t with vm := s.vm } : State) Lc k n ∧ va_S (dk_A H0) H0 t.heap Lc ∧ dk_Rep D ad cA L xs H0 y.1 t.heap ∧
    k + 1000 ≤ R.cells + (y.1.2.2.2.1 + y.1.2.2.2.2) ∧ n + 2000000 ≤ R.slots + (5120 * y.1.2.2.2.1 + 6 * y.1.2.2.2.2) ∧ m0 ≤ y.1.2.2.2.1 ∧ dk_Out ad s t y o
def dk_G (l : Launch) (D : va_G) (ad : dkI → Nat) (cA : Nat → ClassId) (L : Nat) (xs : Nat → Int32) (H0 : Heap) (b : Nat) (mi pc : Nat) (ls : dkL) (st : List dkV) (h : dkH) (y : dkY) : Prop :=
  ∀ (p : Program) (e : Env) (R : Room) (s : State) (m : MethodId) (args : Array Value) (below : List Frame) (meth : Method) (c : Code) (H : Heap) (locs : List Loc) (cells slots m0 : Nat) (la : Array Slot),
    dk_Ctx D cA L xs H0 b mi p e R s m meth c → dk_Rep D ad cA L xs H0 h H → va_S (dk_A H0) H0 H locs → lv_has la (dk_maxL mi) (dk_encL ad ls) → dk_lsok h.2.2.2.1 ls → dk_allok h.2.2.2.1 st →
    cells + 1000 ≤ R.cells + (h.2.2.2.1 + h.2.2.2.2) → slots + 2000000 ≤ R.slots + (5120 * h.2.2.2.1 + 6 * h.2.2.2.2) → m0 ≤ h.2.2.2.1 →
    W p l e R s m args below meth c H locs cells slots (dk_Fin D ad cA L xs H0 below s R m0 y) (F0 m pc la (st.map (dk_enc ad)))
theorem W_mono {p : Program} {l : Launch} {e : Env} {R : Room} {s : State} {m : MethodId} {args : Array Value} {below : List Frame} {meth : Method} {c : Code} {H : Heap} {locs : List Loc} {cells slots : Nat} {Q Q' : State → Prop} {g : JFrame} (hq : ∀ t, Q t → Q' t) (h : W p l e R s m args below meth c H locs cells slots Q g) : W p l e R s m args below meth c H locs cells slots Q' g := by
  intro T hT X
  obtain ⟨t, a, b⟩ := h T hT X
  exact ⟨t, a, hq t b⟩
theorem dk_alI {made : Nat} {x : Int32} {st : List dkV} (h : dk_allok made st) : dk_allok made (vI x :: st) := fun v hv => by
  rcases List.mem_cons.mp hv with rfl | hv
  · exact trivial
  · exact h v hv
theorem dk_alL {made : Nat} {x : Int64} {st : List dkV} (h : dk_allok made st) : dk_allok made (vL x :: st) := fun v hv => by
  rcases List.mem_cons.mp hv with rfl | hv
  · exact trivial
  · exact h v hv
theorem dk_alV {made : Nat} {v : dkV} {st : List dkV} (hv : dk_vok made v) (h : dk_allok made st) : dk_allok made (v :: st) := fun w hw => by
  rcases List.mem_cons.mp hw with rfl | hw
  · exact hv
  · exact h w hw
theorem dk_alT {made : Nat} {v : dkV} {st : List dkV} (h : dk_allok made (v :: st)) : dk_allok made st := fun w hw => h w (List.mem_cons_of_mem _ hw)
theorem dk_alH {made : Nat} {v : dkV} {st : List dkV} (h : dk_allok made (v :: st)) : dk_vok made v := h v List.mem_cons_self
theorem dk_get_mem : ∀ (ls : dkL) (k : Nat) (v : dkV), dk_get ls k = some v → (k, v) ∈ ls
  | [], k, v, h => by simp [dk_get] at h
  | q :: r, k, v, h => by
    rw [dk_get] at h
    by_cases hq : q.1 = k
    · rw [if_pos hq] at h
      have e : q = (k, v) := Prod.ext hq (Option.some.inj h)
      rw [e]; exact List.mem_cons_self
    · rw [if_neg hq] at h
      exact List.mem_cons_of_mem _ (dk_get_mem r k v h)
theorem dk_loc {ad : dkI → Nat} {la : Array Slot} {n k : Nat} {ls : dkL} {v : dkV} (hl : lv_has la n (dk_encL ad ls)) (hg : dk_get ls k = some v) : la[k]? = some (.val (dk_enc ad v)) :=
  hl.2.2 (k, dk_enc ad v) (List.mem_map.mpr ⟨(k, v), dk_get_mem ls k v hg, rfl⟩)
theorem dk_locok {made : Nat} {ls : dkL} {k : Nat} {v : dkV} (h : dk_lsok made ls) (hg : dk_get ls k = some v) : dk_vok made v := h _ (dk_get_mem ls k v hg)
theorem dk_cat {ad : dkI → Nat} (v : dkV) : ((dk_enc ad v).category == 2) = dk_isL v := by
  rcases v with x | a | x <;> rfl
theorem dk_encset {ad : dkI → Nat} {ls : dkL} {k : Nat} {v : dkV} : (k, dk_enc ad v) :: (dk_encL ad ls).filter (fun q => !(q.1 == k) && !(q.1 + 1 == k && q.2.category == 2)) = dk_encL ad (dk_set ls k v) := by
  show _ = (k, dk_enc ad v) :: dk_encL ad _
  congr 1
  simp only [dk_encL, List.filter_map]
  congr 1
  apply List.filter_congr
  intro q _
  simp only [Function.comp, dk_cat]
theorem dk_setok {made : Nat} {ls : dkL} {k : Nat} {v : dkV} (h : dk_lsok made ls) (hv : dk_vok made v) : dk_lsok made (dk_set ls k v) := fun q hq => by
  rcases List.mem_cons.mp hq with rfl | hq
  · exact hv
  · exact h q (List.mem_filter.mp hq).1
