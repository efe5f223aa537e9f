/-! catching -/
def dk_hq (mi : Nat) (q : Nat × Nat × Nat × Nat) : Bool := decide (dk_new mi q.2.2.2 = some (100 + dk_exc q.2.2.2)) && Nat.ble 1 (dk_exc q.2.2.2) && Nat.ble (dk_exc q.2.2.2) 4 && Nat.ble 1 q.2.2.2 && Nat.blt q.2.2.2 1000
theorem dk_hq15 : (dk_han 15).all (dk_hq 15) = true := by decide +kernel
theorem dk_hq20 : (dk_han 20).all (dk_hq 20) = true := by decide +kernel
theorem dk_hq23 : (dk_han 23).all (dk_hq 23) = true := by decide +kernel
theorem dk_hq28 : (dk_han 28).all (dk_hq 28) = true := by decide +kernel
theorem dk_hq51 : (dk_han 51).all (dk_hq 51) = true := by decide +kernel
theorem dk_hq57 : (dk_han 57).all (dk_hq 57) = true := by decide +kernel
theorem dk_hq60 : (dk_han 60).all (dk_hq 60) = true := by decide +kernel
theorem dk_hq64 : (dk_han 64).all (dk_hq 64) = true := by decide +kernel
theorem dk_hq66 : (dk_han 66).all (dk_hq 66) = true := by decide +kernel
theorem dk_hq68 : (dk_han 68).all (dk_hq 68) = true := by decide +kernel
theorem dk_hq70 : (dk_han 70).all (dk_hq 70) = true := by decide +kernel
theorem dk_hqall (mi : Nat) : (dk_han mi).all (dk_hq mi) = true := by
  unfold dk_han
  split
  · exact dk_hq15
  · exact dk_hq20
  · exact dk_hq23
  · exact dk_hq28
  · exact dk_hq51
  · exact dk_hq57
  · exact dk_hq60
  · exact dk_hq64
  · exact dk_hq66
  · exact dk_hq68
  · exact dk_hq70
  · rfl
theorem dk_cast1 : Cond.castable (dk_X 1) (dk_X 1) ∈ lw_tbl := dk_inT (List.mem_of_getElem? (i := 249) (by decide +kernel))
theorem dk_cast2 : Cond.castable (dk_X 2) (dk_X 2) ∈ lw_tbl := dk_inT (List.mem_of_getElem? (i := 318) (by decide +kernel))
theorem dk_cast3 : Cond.castable (dk_X 3) (dk_X 3) ∈ lw_tbl := dk_inT (List.mem_of_getElem? (i := 355) (by decide +kernel))
theorem dk_cast4 : Cond.castable (dk_X 4) (dk_X 4) ∈ lw_tbl := dk_inT (List.mem_of_getElem? (i := 371) (by decide +kernel))
theorem dk_castX {i : Nat} (h1 : 1 ≤ i) (h4 : i ≤ 4) : Cond.castable (dk_X i) (dk_X i) ∈ lw_tbl := by
  match i, h1, h4 with
  | 1, _, _ => exact dk_cast1
  | 2, _, _ => exact dk_cast2
  | 3, _, _ => exact dk_cast3
  | 4, _, _ => exact dk_cast4
  | n + 5, _, h => omega
theorem dk_go_cold {Q : Handler → Pre} {E : CtlPost} {e : Env} {d : Bool} {acts : List Action} {s : State} {f : JFrame} {a : Addr} {x : ExceptionTableEntry} {t : List ExceptionTableEntry} {c : ClassId} {vm' : Vm} (hx : covers x f.pc = true) (h0 : x.catchType ≠ 0)
    (hg : (Jvm.resolveClass f.method.cls x.catchType).Gives e.toSetting s.vm (.ok c) vm') (hr : vm'.classReady f.method.cls x.catchType c) (hsz : vm'.classes.size ≤ s.vm.classes.size) :
    wp (findHandler.go f a (x :: t)) Q E e d acts s ↔ wp (findHandler.go f a (x :: t)) Q E e d acts (s.setVm vm') := by
  simp only [covers] at hx
  obtain ⟨ha, ht⟩ := hg.op (op := VmOp.resolveClass f.method.cls x.catchType) rfl
  obtain ⟨k, hkd, hres⟩ := hr
  obtain ⟨hb1, hb2⟩ := resolveClass_memo e hkd hres
  simp [findHandler.go, hx, h0, ha, ht, hsz, hb1, hb2, VmOp.dirties, VmOp.acts]
  exact Iff.rfl
theorem dk_stepCatch {e : Env} {s : State} {a : Addr} {f : JFrame} {r : List Frame} {pc : Nat} {vm' : Vm} (hfind : ∀ (Q : Handler → Pre) (E : CtlPost) (d : Bool) (acts : List Action), wp (findHandler f a) Q E e d acts s ↔ Q (.found pc) d acts (s.setVm vm')) :
    (stepThrowing e s a (.java f :: r)).Is ((s.setVm vm').setFrames (.java { f with pc := pc, stack := [.ref a] } :: r)) [] := by
  simp only [stepThrowing, searchFrame, vmDo]
  generalize hr : Sem.go _ e false [] s = res
  obtain ⟨as, rfl, ha⟩ := Sem.eq_ok_of hr (a := Handler.found pc) (s' := s.setVm vm') (acts' := []) (by simp [hfind _ _ _ _])
  exact ⟨rfl, ha⟩
theorem dk_caught {tb : Tables} {e : Env} {s target : State} {g : JFrame} {c : Code} {below : List Frame} {a : Addr} {vm' : Vm} (h : At s g.method c below) {pc : Nat}
    (hfind : ∀ (Q : Handler → Pre) (E : CtlPost) (d : Bool) (acts : List Action), wp (findHandler g a) Q E e d acts ((s.setTop g).pushFrame (.throwing a)) ↔ Q (.found pc) d acts (((s.setTop g).pushFrame (.throwing a)).setVm vm'))
    (hrest : Steps tb e below ((s.setVm vm').setTop { g with pc := pc, stack := [.ref a] }) target) :
    Steps tb e below ((s.setTop g).pushFrame (.throwing a)) target := by
  obtain ⟨hgo, hw⟩ := h.throwing a
  refine Steps.head hgo hw ?_
  rw [stepThread_throwing (frames_entered h.top _), (dk_stepCatch (s := (s.setTop g).pushFrame (.throwing a)) hfind).1]
  obtain ⟨g₀, hg⟩ := Option.isSome_iff_exists.mp h.top
  obtain ⟨r, hr⟩ := State.topJava?_eq_some.mp hg
  have e1 : ((((s.setTop g).pushFrame (.throwing a)).setVm vm').setFrames (.java { g with pc := pc, stack := [.ref a] } :: s.frames.tail)) = (((s.setTop g).pushFrame (.throwing a)).setFrames (.java { g with pc := pc, stack := [.ref a] } :: s.frames.tail)).setVm vm' := rfl
  rw [e1, State.pushFrame, State.setFrames_setFrames, State.setTop_of_frames _ hr, State.setFrames_setFrames]
  have hr' : (s.setVm vm').frames = .java g₀ :: r := hr
  rw [State.setTop_of_frames _ hr'] at hrest
  rw [hr]
  exact hrest
section
variable {D : va_G} {ad : dkI → Nat} {cA : Nat → ClassId} {L : Nat} {xs : Nat → Int32} {H0 : Heap} {b mi : Nat} {p : Program} {l : Launch} {e : Env} {R : Room} {s : State} {m : MethodId} {args : Array Value} {below : List Frame} {meth : Method} {c : Code}
/-- the search through the handlers -/
theorem dk_finds (C : dk_Ctx D cA L xs H0 b mi p e R s m meth c) (hadm : l.admits e) {f : JFrame} (hfm : f.method = m) {x : Addr} {cell : Cell} {ex hp : Nat} (hex1 : 1 ≤ ex) (hex4 : ex ≤ 4) (hcell2 : cell.vm = .none) (hcls : s.vm.findClass (dk_X ex) = some cell.cls) :
    ∀ (hs : List ExceptionTableEntry) (U : State), (∀ z ∈ hs, dk_hq mi (z.startPc, z.endPc, z.handlerPc, z.catchType) = true) → s.WarmedH U.vm → U.heap[x]? = some cell → dk_scan f.pc ex (hs.map (fun h => (h.startPc, h.endPc, h.handlerPc, h.catchType))) = some hp →
      ∃ vm' : Vm, s.WarmedH vm' ∧ ∀ (Q : Handler → Pre) (E : CtlPost) (d : Bool) (acts : List Action), wp (findHandler.go f x hs) Q E e d acts U ↔ Q (.found hp) d acts (U.setVm vm')
  | [], U, _, _, _, hsc => by simp [dk_scan] at hsc
  | z :: hs, U, hq, hW, hcell, hsc => by
    have hpl : e.platform.magicAccessors = ({} : Platform).magicAccessors := by rw [hadm.platform]
    have hz := hq z List.mem_cons_self
    have hrest : ∀ w ∈ hs, dk_hq mi (w.startPc, w.endPc, w.handlerPc, w.catchType) = true := fun w hw => hq w (List.mem_cons_of_mem _ hw)
    simp only [dk_hq, Bool.and_eq_true, decide_eq_true_eq, Nat.ble_eq, Nat.blt_eq] at hz
    obtain ⟨⟨⟨⟨hnew, he1⟩, he4⟩, hc1⟩, hc2⟩ := hz
    rw [List.map_cons, dk_scan] at hsc
    cases hcov : covers z f.pc with
    | false =>
      simp only [covers, Bool.and_eq_false_iff, decide_eq_false_iff_not] at hcov
      rw [if_neg (by
        rintro ⟨q1, q2, -⟩
        have q1 : z.startPc ≤ f.pc := q1
        have q2 : f.pc < z.endPc := q2
        rcases hcov with q | q <;> omega)] at hsc
      obtain ⟨vm', hW', hfin⟩ := dk_finds C hadm hfm hex1 hex4 hcell2 hcls hs U hrest hW hcell hsc
      refine ⟨vm', hW', fun Q E d acts => ?_⟩
      rw [W.findHandler_go_skip (by simp only [covers, Bool.and_eq_false_iff, decide_eq_false_iff_not]; exact hcov)]
      exact hfin Q E d acts
    | true =>
      have hlink := dk_cls_spec hnew hc2
      rw [if_neg (by omega), show 100 + dk_exc z.catchType - 100 = dk_exc z.catchType by omega] at hlink
      have hown := C.2.2.2.2.2.2.2.2.1
      have hWd := C.2.2.2.2.2.2.2.2.2.1
      obtain ⟨cc, hfcc, hcl⟩ := Cond.classLink_spec hown (hWd _ hlink rfl #[]) e.platform hpl
      obtain ⟨hg1, hw1, hr1⟩ := State.classEntry (e := e) hW hcl
      rw [← hfm] at hg1 hr1
      have h0 : z.catchType ≠ 0 := by omega
      have hsz : (U.vm.noted m.cls z.catchType (.cls cc)).classes.size ≤ U.vm.classes.size := by
        have a1 := hw1.2.1
        have a2 := hW.2.1
        omega
      have hal := hw1.alike
      obtain ⟨kc, hkc⟩ := Vm.classAt_of_findClass hfcc
      obtain ⟨kx, hkx⟩ := Vm.classAt_of_findClass hcls
      obtain ⟨kc', hkc', -⟩ := hal.2.2 _ _ hkc
      obtain ⟨kx', hkx', -⟩ := hal.2.2 _ _ hkx
      rw [hfm] at hg1 hr1
      by_cases hexc : dk_exc z.catchType = ex
      · have hcc : cc = cell.cls := by rw [hexc] at hfcc; exact Option.some.inj (hfcc.symm.trans hcls)
        simp only [covers, Bool.and_eq_true, decide_eq_true_eq] at hcov
        rw [if_pos ⟨hcov.1, hcov.2, hexc⟩] at hsc
        have hp' : z.handlerPc = hp := Option.some.inj hsc
        obtain ⟨c3, c4, k3, k4, hasg⟩ := Cond.castable_spec (hWd _ (dk_castX hex1 hex4) rfl #[])
        cases Option.some.inj (k3.symm.trans hcls)
        cases Option.some.inj (k4.symm.trans hcls)
        refine ⟨_, hw1, fun Q E d acts => ?_⟩
        rw [dk_go_cold (by simp only [covers, Bool.and_eq_true, decide_eq_true_eq]; exact hcov) h0 (by rw [hfm]; exact hg1) (by rw [hfm]; exact hr1) hsz,
          W.findHandler_go_class (s := U.setVm (U.vm.noted m.cls z.catchType (.cls cc))) (c := cc) (cell := cell) (by simp only [covers, Bool.and_eq_true, decide_eq_true_eq]; exact hcov) h0 (by rw [hfm]; exact hr1) hcell (fun k => by rw [hcell2]; exact fun h => by cases h) ⟨kx', hkx'⟩ ⟨kc', hkc'⟩,
          if_pos (by show (U.vm.noted m.cls z.catchType (.cls cc)).assignable _ _ = true; rw [hal.assignable, hcc]; exact hasg), hp']
      · rw [if_neg (fun q => hexc q.2.2)] at hsc
        obtain ⟨c3, c4, k3, k4, hasg⟩ := C.2.1.2.2.1.2.1 ex (dk_exc z.catchType) hex1 hex4 he1 he4 (fun q => hexc q.symm)
        cases Option.some.inj (k3.symm.trans hcls)
        cases Option.some.inj (k4.symm.trans hfcc)
        obtain ⟨vm', hW', hfin⟩ := dk_finds C hadm hfm hex1 hex4 hcell2 hcls hs (U.setVm (U.vm.noted m.cls z.catchType (.cls cc))) hrest hw1 hcell hsc
        refine ⟨vm', hW', fun Q E d acts => ?_⟩
        rw [dk_go_cold hcov h0 (by rw [hfm]; exact hg1) (by rw [hfm]; exact hr1) hsz,
          W.findHandler_go_class (s := U.setVm (U.vm.noted m.cls z.catchType (.cls cc))) (c := cc) (cell := cell) hcov h0 (by rw [hfm]; exact hr1) hcell (fun k => by rw [hcell2]; exact fun h => by cases h) ⟨kx', hkx'⟩ ⟨kc', hkc'⟩,
          if_neg (by show ¬ (U.vm.noted m.cls z.catchType (.cls cc)).assignable _ _ = true; rw [hal.assignable, hasg]; decide)]
        exact hfin Q E d acts
end
