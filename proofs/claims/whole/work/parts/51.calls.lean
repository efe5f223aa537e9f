section
variable {l : Launch} {D : va_G} {ad : dkI → Nat} {cA : Nat → ClassId} {L : Nat} {xs : Nat → Int32} {H0 : Heap} {b mi pc len tg : Nat} {sw : List (Int32 × Nat)} {ls : dkL} {st : List dkV} {h : dkH} {y y1 : dkY}
variable {p : Program} {e : Env} {R : Room} {s : State} {m : MethodId} {args : Array Value} {below : List Frame} {meth : Method} {c : Code} {T : State} {locs : List Loc} {cells slots : Nat} {nest : Bool}
/-- what a call's entry gives -/
theorem dk_call_spec {ix mode callee n kd : Nat} (h : dk_callT mi ix = some (mode, callee, n, kd, nest)) (hix : ix < 1000) : (if nest = true then Cond.methodLinkNest (dk_R (dk_oc mi)) ix (dk_tgt mode callee) (dk_R 5) ∈ lw_tbl else Cond.methodLink (dk_R (dk_oc mi)) ix (dk_tgt mode callee) ∈ lw_tbl) ∧ dk_callok (1000 * dk_oc mi + ix, mode, callee, n, kd, nest) = true := by
  have hm := dk_find_mem _ _ _ h
  have h2 := dk_lnk_in _ (List.mem_map_of_mem (f := dk_lnkW) hm)
  have e1 : (1000 * dk_oc mi + ix) / 1000 = dk_oc mi := by omega
  have e2 : (1000 * dk_oc mi + ix) % 1000 = ix := by omega
  refine ⟨?_, List.all_eq_true.mp dk_callok_all _ hm⟩
  cases nest
  · simp only [dk_lnkW, e1, e2] at h2; exact h2
  · simp only [dk_lnkW, e1, e2] at h2; exact h2
theorem dk_tgt01 {mode callee : Nat} (h : mode < 2) : dk_tgt mode callee = dk_y callee := by
  match mode, h with
  | 0, _ => rfl
  | 1, _ => rfl
  | n + 2, h => omega
theorem dk_contains {l : List Nat} {x : Nat} (h : l.contains x = true) : x ∈ l := by simpa using h
def dk_Link (l : Launch) (p : Program) (e : Env) (R : Room) (s : State) (m : MethodId) (args : Array Value) (below : List Frame) (meth : Method) (c : Code) (T : State) (locs : List Loc) (cells slots : Nat) (pc : Nat) (la : Array Slot) (vs rest : List Value) (y : MethodName) : Prop :=
  ∃ (mk : MethodId) (vm₁ : Vm), s.methodNamed? y = some mk ∧ Stand p l e R s m args below meth c (T.setVm vm₁) locs cells slots ∧
    ∀ target, (∀ acts, Steps p.tables e below (doInvoke e ((T.setVm vm₁).setTop (F0 m pc la rest)) acts mk vs.toArray).1 target) → Steps p.tables e below (T.setTop (F0 m pc la (vs.reverse ++ rest))) target
theorem dk_linkS {ix callee n : Nat} {la : Array Slot} {vs rest : List Value} (C : dk_Ctx D cA L xs H0 b mi p e R s m meth c) (X : Stand p l e R s m args below meth c T locs cells slots) {mode : Nat} (hmode : mode < 2) (hcall : dk_callT mi ix = some (mode, callee, n, 2, nest)) (hix : ix < 1000) (hn : vs.length = n) (hd : decode (dk_bytes mi) pc = .ok (.invokestatic ix, 3)) :
    dk_Link l p e R s m args below meth c T locs cells slots pc la vs rest (dk_y callee) := by
  obtain ⟨hlk, hok⟩ := dk_call_spec hcall hix
  rw [dk_tgt01 hmode] at hlk
  simp only [dk_callok, Bool.or_eq_true, Bool.and_eq_true, Bool.not_eq_true', Nat.blt_eq, decide_eq_true_eq, beq_iff_eq] at hok
  have hWd := C.2.2.2.2.2.2.2.2.2.1
  have hown := C.2.2.2.2.2.2.2.2.1
  rcases hok with hok | ⟨⟨hc104, -⟩, (⟨⟨⟨⟨h1, -⟩, -⟩, -⟩, -⟩ | ⟨⟨⟨⟨⟨h1, -⟩, -⟩, -⟩, -⟩, -⟩) | ⟨⟨⟨-, hst⟩, hnest⟩, hpar⟩⟩
  · exfalso
    have : Nat.blt mode 2 = true := Nat.blt_eq.mpr hmode
    rw [this] at hok; cases hok
  · cases h1
  · cases h1
  · cases nest
    · obtain ⟨mk, methM, cM, hnamed, hmethM, -, -, -, -, -, -, hsigM, -⟩ := dk_meth hWd hc104
      have hstW := hWd _ (dk_st_in _ (List.mem_map_of_mem (f := fun i => Cond.static (dk_y i)) (dk_contains hst))) rfl args
      have hstatic : methM.isStatic = true := Cond.static_spec hnamed hmethM hstW
      obtain ⟨kP, hkP, -⟩ := className_of_methodNamed hnamed
      have hini := hWd _ (dk_ini (dk_ocL callee)) rfl args
      have hfc := findClass_of_methodNamed hnamed
      rw [dk_ycls] at hfc
      have hinitP : kP.init = .initialized := Cond.initialized_spec hfc hkP hini
      have hy : (dk_y callee).cls ≠ "java/lang/invoke/MethodHandle" ∧ (dk_y callee).cls ≠ "java/lang/invoke/VarHandle" := by
        rw [dk_ycls]; exact (dk_plainN _ (dk_ocL callee)).2
      have hlen : vs.length = methM.sig.parameters.length := by
        rw [hsigM] at hpar
        rw [hn]; exact (Option.some.inj hpar).symm
      obtain ⟨vm₁, X₁, hstep⟩ := X.invokestatic C.1 hown (hWd _ hlk rfl args) hnamed hmethM hstatic hkP hinitP hy (g := F0 m pc la (vs.reverse ++ rest)) rfl (argsL := vs) (rest := rest) hlen rfl (by rw [C.2.2.1]; exact hd)
      exact ⟨mk, vm₁, hnamed, X₁, fun target ht => hstep target (fun acts => ht acts)⟩
    · cases hnest
theorem dk_linkI {ix callee n a0 : Nat} {la : Array Slot} {As rest : List Value} (C : dk_Ctx D cA L xs H0 b mi p e R s m meth c) (X : Stand p l e R s m args below meth c T locs cells slots) {mode : Nat} (hmode : mode < 2) (hcall : dk_callT mi ix = some (mode, callee, n, 1, nest)) (hix : ix < 1000) (hn : As.length + 1 = n) (hd : decode (dk_bytes mi) pc = .ok (.invokespecial ix, 3)) :
    dk_Link l p e R s m args below meth c T locs cells slots pc la (.ref a0 :: As) rest (dk_y callee) := by
  obtain ⟨hlk, hok⟩ := dk_call_spec hcall hix
  rw [dk_tgt01 hmode] at hlk
  simp only [dk_callok, Bool.or_eq_true, Bool.and_eq_true, Bool.not_eq_true', Nat.blt_eq, decide_eq_true_eq, beq_iff_eq] at hok
  have hWd := C.2.2.2.2.2.2.2.2.2.1
  have hown := C.2.2.2.2.2.2.2.2.1
  have hpl : e.platform.magicAccessors = ({} : Platform).magicAccessors := by rw [X.admits.platform]
  rcases hok with hok | ⟨⟨hc104, -⟩, (⟨⟨⟨⟨h1, -⟩, -⟩, -⟩, -⟩ | ⟨⟨⟨⟨⟨-, hin⟩, hname⟩, hpar⟩, -⟩, hret⟩) | ⟨⟨⟨h1, -⟩, -⟩, -⟩⟩
  · exfalso
    have : Nat.blt mode 2 = true := Nat.blt_eq.mpr hmode
    rw [this] at hok; cases hok
  · cases h1
  · have hy : (dk_y callee).cls ≠ "java/lang/invoke/MethodHandle" ∧ (dk_y callee).cls ≠ "java/lang/invoke/VarHandle" := by
      rw [dk_ycls]; exact (dk_plainN _ (dk_ocL callee)).2
    have hinst := hWd _ (dk_im_in _ (List.mem_map_of_mem (f := fun i => Cond.instanceMethod (dk_y i)) (dk_contains hin))) rfl args
    have hlen : ∀ sig, parseMethodDescriptor (dk_y callee).desc = some sig → As.length = sig.parameters.length := fun sig hs => by
      rw [hs] at hpar
      have : sig.parameters.length + 1 = n := Option.some.inj hpar
      omega
    have hcode : (Cond.code (dk_y callee) (dk_bytes callee) (dk_maxL callee) none).before args s = true := by
      have hw := dk_code_w hc104
      have hh : dk_han callee = [] := by
        have hall : (List.range 104).all (fun i => !decide (dk_ret i = 0) || decide (dk_han i = [])) = true := by decide +kernel
        have := List.all_eq_true.mp hall callee (List.mem_range.mpr hc104)
        simp only [Bool.or_eq_true, Bool.not_eq_true', decide_eq_false_iff_not, decide_eq_true_eq] at this
        exact this.resolve_left (fun z => z hret)
      have hr : dk_rtT callee = none := by unfold dk_rtT; rw [hret]; rfl
      unfold dk_codeW at hw
      rw [if_pos hh, hr] at hw
      exact hWd _ hw rfl args
    cases nest
    · obtain ⟨mk, methM, cM, kP, vm₁, hnamed, -, -, -, -, -, -, -, hW₁, hstep₁⟩ := Steps.initColdArgs (e := e) X.here C.1 X.warmed hpl hown hname hy (hWd _ hlk rfl args) hinst hcode (f := F0 m pc la (As.reverse ++ .ref a0 :: rest)) rfl hlen rfl (by rw [C.2.2.1]; exact hd)
      refine ⟨mk, vm₁, hnamed, X.noted hW₁, fun target ht => ?_⟩
      rw [List.reverse_cons, List.append_assoc]
      exact hstep₁ target (fun acts => ht acts)
    · obtain ⟨mk, methM, cM, kP, vm₁, hnamed, -, -, -, -, -, -, -, hW₁, hstep₁⟩ := Steps.initColdArgsNest (e := e) X.here C.1 X.warmed hpl hown hname hy (hWd _ hlk rfl args) hinst hcode (f := F0 m pc la (As.reverse ++ .ref a0 :: rest)) rfl hlen rfl (by rw [C.2.2.1]; exact hd)
      refine ⟨mk, vm₁, hnamed, X.noted hW₁, fun target ht => ?_⟩
      rw [List.reverse_cons, List.append_assoc]
      exact hstep₁ target (fun acts => ht acts)
  · cases h1
theorem dk_linkV {ix callee n a0 : Nat} {la : Array Slot} {As rest : List Value} {cellB : Cell} (C : dk_Ctx D cA L xs H0 b mi p e R s m meth c) (X : Stand p l e R s m args below meth c T locs cells slots) {mode : Nat} (hmode : mode < 2) (hcall : dk_callT mi ix = some (mode, callee, n, 0, nest)) (hix : ix < 1000) (hn : As.length + 1 = n)
    (hcell : T.heap[a0]? = some cellB) (hobj : cellB.vm = .none) (hcls : s.vm.findClass (dk_R (dk_oc callee)) = some cellB.cls) (hd : decode (dk_bytes mi) pc = .ok (.invokevirtual ix, 3)) :
    dk_Link l p e R s m args below meth c T locs cells slots pc la (.ref a0 :: As) rest (dk_y callee) := by
  obtain ⟨hlk, hok⟩ := dk_call_spec hcall hix
  rw [dk_tgt01 hmode] at hlk
  simp only [dk_callok, Bool.or_eq_true, Bool.and_eq_true, Bool.not_eq_true', Nat.blt_eq, decide_eq_true_eq, beq_iff_eq] at hok
  have hWd := C.2.2.2.2.2.2.2.2.2.1
  have hown := C.2.2.2.2.2.2.2.2.1
  rcases hok with hok | ⟨⟨hc104, -⟩, (⟨⟨⟨⟨-, hvi⟩, hin⟩, hpar⟩, -⟩ | ⟨⟨⟨⟨⟨h1, -⟩, -⟩, -⟩, -⟩, -⟩) | ⟨⟨⟨h1, -⟩, -⟩, -⟩⟩
  · exfalso
    have : Nat.blt mode 2 = true := Nat.blt_eq.mpr hmode
    rw [this] at hok; cases hok
  · have hy : (dk_y callee).cls ≠ "java/lang/invoke/MethodHandle" ∧ (dk_y callee).cls ≠ "java/lang/invoke/VarHandle" := by
      rw [dk_ycls]; exact (dk_plainN _ (dk_ocL callee)).2
    have hinst := hWd _ (dk_im_in _ (List.mem_map_of_mem (f := fun i => Cond.instanceMethod (dk_y i)) (dk_contains hin))) rfl args
    have hsel := hWd _ (dk_se_in _ (List.mem_map_of_mem (f := fun i => Cond.selects (dk_R (dk_oc i)) (dk_y i) (dk_y i)) (dk_contains hvi))) rfl args
    obtain ⟨mk, methM, hnamed, hmethM, hstM, habM⟩ := Cond.instanceMethod_spec hinst
    obtain ⟨mk2, methM2, cM, hnamed2, hmethM2, -, -, -, -, -, -, hsigM, -⟩ := dk_meth hWd hc104
    cases hnamed.symm.trans hnamed2
    cases hmethM.symm.trans hmethM2
    obtain ⟨c2, r2, m2, q1, q2, q3, q4, kP, hkP, hkPi⟩ := Cond.selects_spec hsel
    cases hcls.symm.trans q1
    cases (State.methodFound?_of_named hnamed hy).symm.trans q2
    cases hnamed.symm.trans q3
    have hselP : selectMethod e.platform s.vm cellB.cls mk = .method mk := by rw [Launch.admits_selectMethod X.admits]; exact q4
    have hlen : As.length = methM.sig.parameters.length := by
      rw [hsigM] at hpar
      have : methM.sig.parameters.length + 1 = n := Option.some.inj hpar
      omega
    cases nest
    · obtain ⟨vm₁, X₁, hstep⟩ := X.invokevirtual C.1 hown (hWd _ hlk rfl args) hnamed hmethM hstM hkP hkPi hy (a := a0) (cell := cellB) hcell (fun z h => by rw [hobj] at h; cases h) hselP hmethM habM hkP hkPi (g := F0 m pc la (As.reverse ++ .ref a0 :: rest)) rfl (argsL := As) (rest := rest) hlen rfl (by rw [C.2.2.1]; exact hd)
      refine ⟨mk, vm₁, hnamed, X₁, fun target ht => ?_⟩
      rw [List.reverse_cons, List.append_assoc]
      exact hstep target (fun acts => ht acts)
    · obtain ⟨vm₁, X₁, hstep⟩ := X.invokevirtualNest C.1 hown (hWd _ hlk rfl args) hnamed hmethM hstM hkP hkPi hy (a := a0) (cell := cellB) hcell (fun z h => by rw [hobj] at h; cases h) hselP hmethM habM hkP hkPi (g := F0 m pc la (As.reverse ++ .ref a0 :: rest)) rfl (argsL := As) (rest := rest) hlen rfl (by rw [C.2.2.1]; exact hd)
      refine ⟨mk, vm₁, hnamed, X₁, fun target ht => ?_⟩
      rw [List.reverse_cons, List.append_assoc]
      exact hstep target (fun acts => ht acts)
  · cases h1
  · cases h1
end
