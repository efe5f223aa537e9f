section
variable {l : Launch} {D : va_G} {ad : dkI → Nat} {cA : Nat → ClassId} {L : Nat} {xs : Nat → Int32} {H0 : Heap} {b mi pc len tg : Nat} {sw : List (Int32 × Nat)} {ls : dkL} {st : List dkV} {h : dkH} {y y1 : dkY}
set_option maxRecDepth 100000 in
theorem dk_objI : Cond.instanceMethod objectInit ∈ lw_tbl := dk_inT (List.mem_of_getElem? (i := 22) rfl)
set_option maxRecDepth 100000 in
theorem dk_objC : Cond.code objectInit ⟨#[0xb1]⟩ 1 none ∈ lw_tbl := dk_inT (List.mem_of_getElem? (i := 23) rfl)
set_option maxRecDepth 100000 in
theorem dk_maxS : Cond.static Lib.Math.max.name ∈ lw_tbl := dk_inT (List.mem_of_getElem? (i := 492) rfl)
set_option maxRecDepth 100000 in
theorem dk_minS : Cond.static Lib.Math.min.name ∈ lw_tbl := dk_inT (List.mem_of_getElem? (i := 478) rfl)
set_option maxRecDepth 100000 in
theorem dk_maxC : Cond.code Lib.Math.max.name Lib.Math.max.code 2 (some .int) ∈ lw_tbl := dk_inT (List.mem_of_getElem? (i := 493) rfl)
set_option maxRecDepth 100000 in
theorem dk_minC : Cond.code Lib.Math.min.name Lib.Math.min.code 2 (some .int) ∈ lw_tbl := dk_inT (List.mem_of_getElem? (i := 479) rfl)
set_option maxRecDepth 100000 in
theorem dk_mathI : Cond.initialized "java/lang/Math" ∈ lw_tbl := dk_inT (List.mem_of_getElem? (i := 15) rfl)
theorem dk_nest2 : dk_callL.all (fun q => Nat.blt q.2.1 2 || !q.2.2.2.2.2) = true := by decide +kernel
theorem dk_link2 {ix mode callee n kd : Nat} {nest : Bool} (hm : ¬ mode < 2) (h : dk_callT mi ix = some (mode, callee, n, kd, nest)) (hix : ix < 1000) : Cond.methodLink (dk_R (dk_oc mi)) ix (dk_tgt mode callee) ∈ lw_tbl := by
  have h1 := (dk_call_spec h hix).1
  have h2 := List.all_eq_true.mp dk_nest2 _ (dk_find_mem _ _ _ h)
  simp only [Bool.or_eq_true, Nat.blt_eq, Bool.not_eq_true'] at h2
  have h3 := h2.resolve_left hm
  subst h3
  exact h1
theorem dk_room2 {ix : Nat} (h : dk_roomok mi ix = true) {q : Nat × Nat × Nat × Nat × Bool} (hc : dk_callT mi ix = some q) : 24 ≤ dk_lo mi ∧ 1 ≤ dk_fr mi := by
  obtain ⟨a1, a2, a3, a4, a5⟩ := q
  simp only [dk_roomok, hc, Bool.and_eq_true, Nat.ble_eq] at h
  exact h.1
theorem g_obj {ix callee n kd : Nat} {nest : Bool} {a : dkI} (hf : dk_find (dk_code mi) pc = some (.invokespecial ix, len, tg, sw)) (hcall : dk_callT mi ix = some (2, callee, n, kd, nest)) (hrl : st.length ≤ 4)
    (k : dk_G l D ad cA L xs H0 b mi (pc + 3) ls st h y) : dk_G l D ad cA L xs H0 b mi pc ls (vR a :: st) h y := by
  obtain ⟨hd, ht⟩ := dk_dec hf
  obtain rfl : len = 3 := by simpa [dk_tok, dk_il] using ht
  have hix : ix < 1000 := by simpa [dk_chk2] using dk_ent hf
  have hr := dk_room2 (mi := mi) (ix := ix) (dk_room hf) hcall
  have hlk := dk_link2 (by omega) hcall hix
  intro p e R s m args below meth c H locs cells slots m0 la C hR hS hl hlo hso hc1 hc2 hm
  have hWd := C.2.2.2.2.2.2.2.2.2.1
  have h1 := C.2.1.1
  have h2 := C.2.1.2.1
  have hcs := dk_catsum (ad := ad) st
  exact W.objInit C.1 C.2.2.1 C.2.2.2.2.2.2.2.2.1 (hWd _ hlk rfl args) (hWd _ dk_objI rfl args) (hWd _ dk_objC rfl args) (g := F0 m pc la (.ref (ad a) :: st.map (dk_enc ad))) rfl (by rw [C.2.2.2.1]; exact hl.1) rfl hd (by omega)
    (by
      show 2 * 0 + ((st.map (dk_enc ad)).map fun v => v.category).sum + 12 ≤ R.locals
      omega) (k p e R s m args below meth c H locs cells slots m0 la C hR hS hl hlo (dk_alT hso) hc1 hc2 hm)
theorem g_max {ix callee n kd : Nat} {nest : Bool} {x z : Int32} (hf : dk_find (dk_code mi) pc = some (.invokestatic ix, len, tg, sw)) (hcall : dk_callT mi ix = some (3, callee, n, kd, nest)) (hrl : st.length ≤ 4)
    (k : dk_G l D ad cA L xs H0 b mi (pc + 3) ls (vI (if x < z then z else x) :: st) h y) : dk_G l D ad cA L xs H0 b mi pc ls (vI z :: vI x :: st) h y := by
  obtain ⟨hd, ht⟩ := dk_dec hf
  obtain rfl : len = 3 := by simpa [dk_tok, dk_il] using ht
  have hix : ix < 1000 := by simpa [dk_chk2] using dk_ent hf
  have hr := dk_room2 (mi := mi) (ix := ix) (dk_room hf) hcall
  have hlk := dk_link2 (by omega) hcall hix
  intro p e R s m args below meth c H locs cells slots m0 la C hR hS hl hlo hso hc1 hc2 hm
  have hWd := C.2.2.2.2.2.2.2.2.2.1
  have h1 := C.2.1.1
  have h2 := C.2.1.2.1
  have hcs := dk_catsum (ad := ad) st
  have hm181 := hR.2.2.1
  have hj600 := hR.2.2.2.1
  exact va_mmax C.1 C.2.2.1 (by rw [C.2.2.2.1]; exact hl.1.symm) C.2.2.2.2.2.2.2.2.1 (hWd _ hlk rfl args) (hWd _ dk_maxS rfl args) (hWd _ dk_mathI rfl args) (hWd _ dk_maxC rfl args) (by omega) (by omega) (by omega) (by omega) hd
    (k p e R s m args below meth c H locs cells slots m0 la C hR hS hl hlo (dk_alI (dk_alT (dk_alT hso))) hc1 hc2 hm)
theorem g_min {ix callee n kd : Nat} {nest : Bool} {x z : Int32} (hf : dk_find (dk_code mi) pc = some (.invokestatic ix, len, tg, sw)) (hcall : dk_callT mi ix = some (4, callee, n, kd, nest)) (hrl : st.length ≤ 4)
    (k : dk_G l D ad cA L xs H0 b mi (pc + 3) ls (vI (if z < x then z else x) :: st) h y) : dk_G l D ad cA L xs H0 b mi pc ls (vI z :: vI x :: st) h y := by
  obtain ⟨hd, ht⟩ := dk_dec hf
  obtain rfl : len = 3 := by simpa [dk_tok, dk_il] using ht
  have hix : ix < 1000 := by simpa [dk_chk2] using dk_ent hf
  have hr := dk_room2 (mi := mi) (ix := ix) (dk_room hf) hcall
  have hlk := dk_link2 (by omega) hcall hix
  intro p e R s m args below meth c H locs cells slots m0 la C hR hS hl hlo hso hc1 hc2 hm
  have hWd := C.2.2.2.2.2.2.2.2.2.1
  have h1 := C.2.1.1
  have h2 := C.2.1.2.1
  have hcs := dk_catsum (ad := ad) st
  have hm181 := hR.2.2.1
  have hj600 := hR.2.2.2.1
  exact va_mmin C.1 C.2.2.1 (by rw [C.2.2.2.1]; exact hl.1.symm) C.2.2.2.2.2.2.2.2.1 (hWd _ hlk rfl args) (hWd _ dk_minS rfl args) (hWd _ dk_mathI rfl args) (hWd _ dk_minC rfl args) (by omega) (by omega) (by omega) (by omega) hd
    (k p e R s m args below meth c H locs cells slots m0 la C hR hS hl hlo (dk_alI (dk_alT (dk_alT hso))) hc1 hc2 hm)
/-- the walk seen from where it stands now -/
theorem dk_rebase {p : Program} {e : Env} {R : Room} {s : State} {m : MethodId} {args : Array Value} {below : List Frame} {meth : Method} {c : Code} {T : State} {locs : List Loc} {cells slots : Nat} (X : Stand p l e R s m args below meth c T locs cells slots) (hc : cells ≤ R.cells) (hs : slots ≤ R.slots) :
    Stand p l e { frames := R.frames, cells := R.cells - cells, slots := R.slots - slots, locals := R.locals } (T.setFrames (.invoking m args :: below)) m args below meth c T [] 0 0 := by
  obtain ⟨g₀, hfr⟩ := X.frames_eq
  have hcur : T.cur < T.threads.size := State.cur_lt_of_frames hfr
  have hframes : (T.setFrames (.invoking m args :: below)).frames = .invoking m args :: below := State.frames_setFrames _ hcur
  have hmeth : (T.setFrames (.invoking m args :: below)).vm.method? m = some meth := X.method'
  obtain ⟨th, hth, -⟩ := State.frames_cons hframes
  have hcur2 : (T.setFrames (.invoking m args :: below)).cur < (T.setFrames (.invoking m args :: below)).threads.size := State.cur_lt_of_frames hframes
  refine ⟨X.admits, X.cas, X.clock, hframes, ?_, ?_, hmeth, X.code, X.here, X.tail, State.WarmedH.refl T, (State.stackLimits_setFrames ..).symm, (State.stackBytes_setFrames ..).symm, ?_⟩
  · have hr := X.room
    have hb := X.book
    have h1 := X.heapSize
    have h2 := X.used
    have hl0 := State.localsInUse_invoking X.frames X.method X.code
    have hl1 := State.localsInUse_invoking hframes hmeth X.code
    have hlim : e.platform.stackLimits (T.setFrames (.invoking m args :: below)).me = e.platform.stackLimits s.me := by rw [State.stackLimits_setFrames, X.limits]
    have hby : (T.setFrames (.invoking m args :: below)).me.stackBytes = s.me.stackBytes := by rw [State.stackBytes_setFrames, X.bytes]
    simp only [State.hasRoom, Bool.and_eq_true, decide_eq_true_eq] at hr ⊢
    rw [hl0, X.frames] at hr
    rw [hl1, hframes, hlim, hby]
    obtain ⟨⟨⟨⟨r1, r2⟩, r3⟩, r4⟩, r5⟩ := hr
    refine ⟨⟨⟨⟨r1, r2⟩, ?_⟩, ?_⟩, hb⟩
    · show T.heap.size + (R.cells - cells) ≤ _; omega
    · show T.slotsUsed + (R.slots - slots) ≤ _; omega
  · have hh := X.hears
    have hal := X.warmed.alike
    unfold State.hears at hh ⊢
    split
    · rename_i g r
      simp only at hh
      have e1 : (T.setFrames (.invoking m args :: .java g :: r)).code? g.method = s.code? g.method := by
        rw [State.code?_eq, State.code?_eq]
        show (T.vm.method? _).bind _ = _
        rw [hal.method?]
      rw [e1]; exact hh
    · rfl
    · rfl
    · rename_i h1 h2 h3
      split at hh
      · exact absurd rfl (h1 _ _)
      · exact absurd rfl (h2 _ _)
      · exact absurd rfl (h3 _ _)
      · show (T.vm.method? m).any _ = true
        rw [hal.method?]; exact hh
  · have h1 := (State.sameButNew.refl (T.setFrames (.invoking m args :: below)) hth).setFrames T.frames hcur2
    obtain ⟨th2, hth2, -⟩ := State.frames_cons hfr
    have e2 : (T.setFrames (.invoking m args :: below)).setFrames T.frames = T := by
      rw [State.setFrames_setFrames]; exact State.setFrames_self hth2
    rw [e2] at h1
    exact h1
end

