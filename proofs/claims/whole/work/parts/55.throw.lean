set_option maxRecDepth 20000 in
theorem dk_str_in : ∀ w ∈ dk_strT.map (fun q => Cond.stringRef (dk_R (q.1 / 1000)) (q.1 % 1000) q.2), w ∈ lw_tbl := dk_byP [289, 325, 349, 362, 378, 396, 400, 526, 550, 570, 578, 586, 594, 595] (by decide +kernel)
theorem dk_newE : dk_newT.all (fun q => Nat.blt q.2 7 || (Nat.ble 101 q.2 && Nat.ble q.2 104)) = true := by decide +kernel
theorem dk_icE : dk_callL.all (fun q => !decide (q.2.1 = 9) || decide (q.1 = 5000 + dk_ic q.2.2.1)) = true := by decide +kernel
theorem dk_atoms {s : State} {e : Env} {H0 : Heap} (hWd : dk_Wd s) (hS : dk_Sys s e H0) (hH : ∀ q, q < H0.size → s.heap[q]? = H0[q]?) {ex : Nat} (h1 : 1 ≤ ex) (h4 : ex ≤ 4) (args : Array Value) : ∀ a ∈ Bundle.ownAtoms (dk_R 5) (dk_ic ex) (dk_X ex) dk_names, a.before args s = true := by
  have sta : ∀ f d, dk_Sta f d s H0 → (Cond.laysStatic "java/lang/Throwable" f d).before args s = true ∧ (Cond.isRef (.static "java/lang/Throwable" f d)).before args s = true := by
    rintro f d ⟨c, k, i, fd, a, cell, g1, g2, g3, g4, g5, g6, g7, g8, g9, v, g10, g11⟩
    have hlt : a < H0.size := (Array.getElem?_eq_some_iff.mp g5).1
    have hcell : s.heap[a]? = some cell := by rw [hH a hlt]; exact g5
    refine ⟨by simp [Cond.before, Cond.holds, Cond.value, g1, g2, g3, g4, hcell, g6, g7, g8, g9], ?_⟩
    have he : (Term.static "java/lang/Throwable" f d).eval args s none [] s = some v := by
      simp [Term.eval, State.fieldNamed?, g2, g3, g4, hcell, g6, g10]
    simp only [Cond.before, Cond.holds, Cond.value, he]
    cases v <;> simp [Value.isRef] at g11 ⊢
  intro a ha
  have key : ∀ (L : List Cond), (∀ w ∈ L.filter (fun w => !dk_sp w), w ∈ lw_tbl) → (L.filter (fun w => !dk_sp w)).all dk_wk = true → L.filter dk_sp = [.laysStatic "java/lang/Throwable" "UNASSIGNED_STACK" "[Ljava/lang/StackTraceElement;", .laysStatic "java/lang/Throwable" "SUPPRESSED_SENTINEL" "Ljava/util/List;", .isRef (.static "java/lang/Throwable" "UNASSIGNED_STACK" "[Ljava/lang/StackTraceElement;"), .isRef (.static "java/lang/Throwable" "SUPPRESSED_SENTINEL" "Ljava/util/List;")] → a ∈ L → a.before args s = true := by
    intro L k1 k2 k3 hm
    cases hsp : dk_sp a with
    | false =>
      have hf : a ∈ L.filter (fun w => !dk_sp w) := List.mem_filter.mpr ⟨hm, by rw [hsp]; rfl⟩
      exact hWd a (k1 a hf) (List.all_eq_true.mp k2 a hf) args
    | true =>
      have hf : a ∈ L.filter dk_sp := List.mem_filter.mpr ⟨hm, hsp⟩
      rw [k3] at hf
      simp only [List.mem_cons, List.not_mem_nil, or_false] at hf
      rcases hf with rfl | rfl | rfl | rfl
      · exact (sta _ _ hS.2.2.1).1
      · exact (sta _ _ hS.2.2.2).1
      · exact (sta _ _ hS.2.2.1).2
      · exact (sta _ _ hS.2.2.2).2
  match ex, h1, h4 with
  | 1, _, _ => exact key _ dk_oa1 dk_ob1 dk_oc1 ha
  | 2, _, _ => exact key _ dk_oa2 dk_ob2 dk_oc2 ha
  | 3, _, _ => exact key _ dk_oa3 dk_ob3 dk_oc3 ha
  | 4, _, _ => exact key _ dk_oa4 dk_ob4 dk_oc4 ha
  | n + 5, _, h => omega
theorem dk_eiX {ex : Nat} (h1 : 1 ≤ ex) (h4 : ex ≤ 4) : Cond.instantiable (dk_X ex) 6 ∈ lw_tbl ∧ Cond.initialized (dk_X ex) ∈ lw_tbl ∧ Bundle.fit (dk_X ex) = true := by
  match ex, h1, h4 with
  | 1, _, _ => exact ⟨dk_ei1.1, dk_ei1.2, dk_fitX.2.2.1⟩
  | 2, _, _ => exact ⟨dk_ei2.1, dk_ei2.2, dk_fitX.2.2.2.1⟩
  | 3, _, _ => exact ⟨dk_ei3.1, dk_ei3.2, dk_fitX.2.2.2.2.1⟩
  | 4, _, _ => exact ⟨dk_ei4.1, dk_ei4.2, dk_fitX.2.2.2.2.2⟩
  | n + 5, _, h => omega
def dk_c_throws (mi : Nat) : Bool := (dk_code mi).any (fun q => match q.2.1 with
  | .athrow => true
  | _ => false)
theorem dk_fr5 : ∀ mi, mi < 105 → (dk_c_throws mi = true) → 6 ≤ dk_fr mi ∧ 96 ≤ dk_lo mi := by decide +kernel
section
variable {l : Launch} {D : va_G} {ad : dkI → Nat} {cA : Nat → ClassId} {L : Nat} {xs : Nat → Int32} {H0 : Heap} {b mi pc len tg : Nat} {sw : List (Int32 × Nat)} {ls : dkL} {st : List dkV} {h : dkH} {y y1 : dkY}
set_option maxHeartbeats 1000000 in
theorem g_throw {ix c : Nat} {u : Unit} (hmi : mi < 105) (hf : dk_find (dk_code mi) pc = some (.new ix, len, tg, sw)) (hc : dk_new mi ix = some c) (h100 : 100 ≤ c) (hfl : h.2.2.1 = .inl u) (hj : h.2.2.2.2 < 600) (hstl : st.length ≤ 4) :
    dk_G l D ad cA L xs H0 b mi pc ls st h ((h.1, h.2.1, h.2.2.1, h.2.2.2.1, h.2.2.2.2 + 1), .inr (c - 100)) := by
  obtain ⟨hd, ht⟩ := dk_dec hf
  obtain rfl : len = 3 := by simpa [dk_tok, dk_il] using ht
  have hen := dk_ent hf
  simp only [dk_chk2, Bool.and_eq_true, Nat.blt_eq, hc, Bool.or_eq_true] at hen
  obtain ⟨hix, hth⟩ := hen
  have hth := hth.resolve_left (by omega)
  have hcE := List.all_eq_true.mp dk_newE _ (dk_find_mem _ _ _ hc)
  simp only [Bool.or_eq_true, Bool.and_eq_true, Nat.blt_eq, Nat.ble_eq] at hcE
  have hcE : 101 ≤ c ∧ c ≤ 104 := by omega
  have hclk := dk_cls_spec hc hix
  rw [if_neg (by omega)] at hclk
  generalize hex : c - 100 = ex at *
  have hx1 : 1 ≤ ex := by omega
  have hx4 : ex ≤ 4 := by omega
  simp only [dk_throwok, Bool.and_eq_true, decide_eq_true_eq] at hth
  obtain ⟨⟨hhan, hoc⟩, hth⟩ := hth
  split at hth
  · rename_i l1 t1 w1 k2 l2 t2 w2 ic l3 t3 w3 l4 t4 w4 f1 f2 f3 f4
    simp only [Bool.and_eq_true, decide_eq_true_eq] at hth
    obtain ⟨⟨⟨hstr, hk2⟩, hic⟩, hci⟩ := hth
    obtain ⟨d1, q1⟩ := dk_dec f1
    obtain rfl : l1 = 1 := by simpa [dk_tok, dk_il] using q1
    obtain ⟨d2, q2⟩ := dk_dec f2
    obtain rfl : l2 = 2 := by simpa [dk_tok, dk_il] using q2
    obtain ⟨d3, q3⟩ := dk_dec f3
    obtain rfl : l3 = 3 := by simpa [dk_tok, dk_il] using q3
    obtain ⟨d4, q4⟩ := dk_dec f4
    obtain rfl : l4 = 1 := by simpa [dk_tok, dk_il] using q4
    have hicE : ic = dk_ic ex := by
      have := List.all_eq_true.mp dk_icE _ (dk_find_mem _ _ _ hci)
      simp only [Bool.or_eq_true, Bool.not_eq_true', decide_eq_false_iff_not, decide_eq_true_eq, not_true, false_or] at this
      rw [hoc] at this
      omega
    subst hicE
    obtain ⟨tx, htx⟩ := Option.isSome_iff_exists.mp hstr
    have hstrw : Cond.stringRef (dk_R 5) k2 tx ∈ lw_tbl := by
      have := dk_str_in _ (List.mem_map_of_mem (f := fun q : Nat × String => Cond.stringRef (dk_R (q.1 / 1000)) (q.1 % 1000) q.2) (dk_find_mem _ _ _ htx))
      rw [show (5000 + k2) / 1000 = 5 by omega, show (5000 + k2) % 1000 = k2 by omega] at this
      exact this
    obtain ⟨hinst, hini, hfit⟩ := dk_eiX hx1 hx4
    have hfr := dk_fr5 mi hmi (List.any_eq_true.mpr ⟨_, dk_find_mem _ _ _ f4, rfl⟩)
    intro p e R s m args below meth cc H locs cells slots m0 la C hR hS hl hlo hso hc1 hc2 hm
    have hm181 := hR.2.2.1
    have hF := C.2.1.1
    have hLO := C.2.1.2.1
    have hcs := dk_catsum (ad := ad) st
    intro T hT X
    subst hT
    have X0 := dk_rebase X (by omega) (by omega)
    have hWm : s.WarmedH (T.setFrames (.invoking m args :: below)).vm := X.warmed
    have hWd := dk_Wd_moved hWm C.2.2.2.2.2.2.2.2.2.1
    have hSy := dk_Sys_moved hWm.alike C.2.1.2.2.1
    have hH0 : ∀ q, q < H0.size → (T.setFrames (.invoking m args :: below)).heap[q]? = H0[q]? := fun q hq => hS.2.1 q hq (dk_notA hq)
    have hown : (T.setFrames (.invoking m args :: below)).vm.findClass (dk_R 5) = some m.cls := by
      have := C.2.2.2.2.2.2.2.2.1
      rw [hoc] at this
      rw [hWm.alike.findClass]; exact this
    have hat := dk_atoms hWd hSy hH0 hx1 hx4 args
    rw [hoc] at hclk
    obtain ⟨cC, kC0, hfc, -⟩ := Cond.instantiable_spec (hWd _ hinst rfl args)
    obtain ⟨_, _, _, q, -, -, -, -, -, hev⟩ := Cond.stringRef_spec hown (hWd _ hstrw rfl #[])
    have hW0 : W p l e { frames := R.frames, cells := R.cells - cells, slots := R.slots - slots, locals := R.locals } (T.setFrames (.invoking m args :: below)) m args below meth cc T.heap [] 0 0
        (fun U => U.status = .running ∧ Ended U below (.threw T.heap.size) ∧ (T.setFrames (.invoking m args :: below)).WarmedH U.vm ∧ (T.setFrames (.invoking m args :: below)).sameButNew ({ U with vm := T.vm } : State) [] 1 6 ∧ ∃ ce : Cell, U.heap[T.heap.size]? = some ce ∧ ce.vm = .none ∧ T.vm.findClass (dk_X ex) = some ce.cls)
        (F0 m pc la (st.map (dk_enc ad))) := by
      refine W.newcK C.1 C.2.2.1 hown (hWd _ hclk rfl args) (hWd _ hinst rfl args) (hWd _ hini rfl args) rfl hd (by show 0 + 1 ≤ R.cells - cells; omega) (by show 0 + 6 ≤ R.slots - slots; omega) hfc rfl fun H1 kC hkC e1 z1 o1 => ?_
      refine lv_dup C.1 C.2.2.1 d1 rfl ?_
      refine va_ldcS C.1 C.2.2.1 hown (tx := tx) (q := q) ⟨hWd _ hstrw rfl #[], hev⟩ d2 ?_
      intro T2 hT2 X2
      obtain ⟨U, u1, u2, u3, u4, u5, ce, u6, u7⟩ := X2.ctorThrowS C.1 hSy.1 (own := dk_R 5) (cls := dk_X ex) (names := dk_names) (ic := dk_ic ex) hown hfit (fun n hn => by
          simp only [dk_names, List.mem_cons, List.not_mem_nil, or_false] at hn
          rcases hn with rfl | rfl
          · exact dk_fitX.1
          · exact dk_fitX.2.1) hat (fun x hx => by cases hx) (a := T.heap.size) hfc hkC (by rw [hT2]; exact e1) (Nat.le_refl _) (msg := .ref q) rfl
        (g := F0 m (pc + 3 + 1 + 2) la (.ref q :: .ref T.heap.size :: .ref T.heap.size :: st.map (dk_enc ad))) rfl (by rw [C.2.2.2.1]; exact hl.1) rfl rfl (rest := st.map (dk_enc ad)) rfl (by rw [C.2.2.1]; exact d3) (by rw [C.2.2.1]; exact d4)
        (fun z hz => by
          have := C.2.2.2.2.2.2.2.1
          rw [hhan] at this
          rw [List.map_eq_nil_iff.mp this] at hz
          cases hz)
        (by show 2 + 3 < R.frames; omega)
        (by
          show 2 * 0 + (1 + ((st.map (dk_enc ad)).map fun v => v.category).sum) + (13 * (2 + 1) + 42) ≤ R.locals
          omega) C.2.2.2.2.2.1
      exact ⟨U, u1, u2, u3, u4, u5, ce, u6, u7.vm, u7.cls⟩
    obtain ⟨U, v1, v2, v3, v4, v5, ce, v6, v7, v8⟩ := hW0 T rfl X0
    have hkeep : ∀ q, q < T.heap.size → U.heap[q]? = T.heap[q]? := by
      intro q hq
      have hcell : T.heap[q]? = some T.heap[q] := Array.getElem?_eq_getElem hq
      obtain ⟨c', k1, k2, k3, k4⟩ := v5.2.2.2.2.2 q _ hcell
      have k1 : U.heap[q]? = some c' := k1
      have : c'.slots = T.heap[q].slots := by
        apply Array.ext_getElem?
        intro i
        exact k4 i (by simp)
      rw [k1, hcell, k2, this]
    have hsz : T.heap.size ≤ U.heap.size := v5.2.1
    refine ⟨U, v1, .threw T.heap.size, locs, cells + 1, slots + 6, v2, v3, State.WarmedH.trans X.warmed v4, ?_, ?_, ?_, ?_, ?_, ?_, ?_⟩
    · have hB : T.sameButNew (U.setVm T.vm) [] 1 6 := by
        obtain ⟨w1, w2⟩ := v5
        refine ⟨?_, w2⟩
        have hcur : T.cur < T.threads.size := by
          obtain ⟨g₀, hfr⟩ := X.frames_eq
          exact State.cur_lt_of_frames hfr
        have e9 : (T.setFrames (.invoking m args :: below)).setFrames (U.setVm T.vm).frames = T.setFrames (U.setVm T.vm).frames := State.setFrames_setFrames ..
        rw [← e9]
        exact w1
      have := X.same.trans (hB.setVm s.vm)
      rw [List.append_nil] at this
      exact this
    · exact ⟨by have := hS.1; omega, fun q a1 a2 => (hkeep q (by have := hS.1; omega)).trans (hS.2.1 q a1 a2), hS.2.2⟩
    · obtain ⟨r1, r2, r3, r4, r5, r6, r7, r8⟩ := hR
      refine ⟨r1.kept (fun k x hx => hkeep x.1 ((r1 k x hx).lt)), r2, r3, ?_, ?_, r6, r7, r8⟩
      · show _ + 1 ≤ 600; omega
      · rintro ⟨g, hg⟩
        have hg : h.2.2.1 = .inr g := hg
        rw [hfl] at hg
        cases hg
    · show cells + 1 + 1000 ≤ R.cells + (h.2.2.2.1 + (h.2.2.2.2 + 1)); omega
    · show slots + 6 + 2000000 ≤ R.slots + (5120 * h.2.2.2.1 + 6 * (h.2.2.2.2 + 1)); omega
    · exact hm
    · refine ⟨T.heap.size, ce, rfl, v6, v7, ?_⟩
      rw [X.warmed.alike.findClass] at v8
      exact v8
  · cases hth
end
