/-! the start -/
theorem dk_Wd_of {s : State} {A : Array Value} (h : ∀ w ∈ lw_tbl, w.before A s = true) : dk_Wd s := by
  intro w hw hk args
  have hb := h w hw
  unfold dk_wk at hk
  split at hk
  · exact va_tabs rfl rfl hb
  · exact va_tabs rfl rfl hb
  · exact va_AO.use (va_AO.of hb)
  · exact va_tabs rfl rfl hb
  · simp only [Cond.before, Cond.holds, Cond.value] at hb ⊢
    exact hb
  · exact va_tabs rfl rfl hb
  · exact word_at (State.WarmedH.refl s) (good_of_word hk) hb
theorem dk_arrPr {s : State} {ty : FieldType} {A : Array Value} (h : (Cond.arrayClass ty).before A s = true) : ∃ c : ClassId, ArrOfT s c ty ∧ s.vm.findClass ("[" ++ ty.toString) = some c := by
  obtain ⟨c, k, comp, h1, h2, h3⟩ := Cond.arrayClass_spec h
  exact ⟨c, fun n z => ⟨fun k h => (by cases h), k, h2, comp, h3⟩, h1⟩
theorem dk_arrO {s : State} {C : String} {A : Array Value} (h : (Cond.arrayOver (.object C)).before A s = true) : ∃ c : ClassId, ArrOfT s c (.object C) ∧ va_RA s c (.object C) := by
  obtain ⟨comp, c, k, h1, h2, h3, h4, h5⟩ := Cond.arrayOver_spec h
  exact ⟨c, fun n z => ⟨fun k h => (by cases h), k, h3, comp, h4⟩, k, comp, h3, h4, h1, h5⟩
theorem dk_known {s : State} {A : Array Value} (h : ∀ w ∈ lw_tbl, w.before A s = true) : ∃ (D : va_G) (cA : Nat → ClassId), va_K D dk_cl (dk_tys cA) s := by
  have hk : ∀ c : Nat, ∃ q : ClassId × (Nat → Nat), c < 7 → u_Kn s (dk_R c) (dk_T c) (dk_N c) q.1 q.2 := by
    intro c
    by_cases hc : c < 7
    · obtain ⟨cC, iS, h1⟩ := u_known h (dk_u hc) (h _ (dk_inst hc))
      exact ⟨(cC, iS), fun _ => h1⟩
    · exact ⟨(0, fun _ => 0), fun z => absurd z hc⟩
  obtain ⟨q, hq⟩ := Classical.axiomOfChoice hk
  obtain ⟨cI, i1, i2⟩   := dk_arrPr (h _ dk_arrI)
  obtain ⟨cZ, z1, z2⟩   := dk_arrPr (h _ dk_arrZ)
  obtain ⟨cJ, j1, j2⟩   := dk_arrPr (h _ dk_arrJ)
  obtain ⟨cP, p1, p2⟩ := dk_arrO (h _ dk_arrP)
  obtain ⟨cW, w1, w2⟩ := dk_arrO (h _ dk_arrW)
  obtain ⟨cG, g1, g2⟩ := dk_arrO (h _ dk_arrG)
  refine ⟨(fun c => (q c).1, fun c => (q c).2), fun n => match n with
    | 50 => cI
    | 51 => cZ
    | 52 => cJ
    | 53 => cP
    | 54 => cW
    | _ => cG, fun c r hr => ?_, fun k r hr => ?_⟩
  · have hc : c < 7 := (List.getElem?_eq_some_iff.mp hr).1
    rw [dk_clAt hc] at hr
    cases hr
    exact hq c hc
  · match k, hr with
    | 0, hr => cases hr; exact ⟨i1, i2⟩
    | 1, hr => cases hr; exact ⟨z1, z2⟩
    | 2, hr => cases hr; exact ⟨j1, j2⟩
    | 3, hr => cases hr; exact ⟨p1, p2⟩
    | 4, hr => cases hr; exact ⟨w1, w2⟩
    | 5, hr => cases hr; exact ⟨g1, g2⟩
    | n + 6, hr => cases hr
theorem dk_fixed (H0 : Heap) {b : Nat} (hb : b < H0.size) : ∃ ad : dkI → Nat, dk_Fix ad H0 b := by
  refine ⟨fun a => if a.1 = 15 then b else H0.size + dk_sch.idxOf a, fun k a ha => ?_, rfl, hb⟩
  obtain ⟨h1, e1⟩ := List.getElem?_eq_some_iff.mp ha
  have h15 := (dk_sch_k a (List.mem_of_getElem? ha)).1
  have f1 := List.Nodup.idxOf_getElem dk_nodup k h1
  rw [e1] at f1
  show (if a.1 = 15 then b else H0.size + dk_sch.idxOf a) = _
  rw [if_neg h15, f1]
theorem dk_nc12 : Cond.not (.castable (dk_X 1) (dk_X 2)) ∈ flatC (Jvm.Cond.and given_1 narrow_1) := by decide +kernel
theorem dk_nc13 : Cond.not (.castable (dk_X 1) (dk_X 3)) ∈ flatC (Jvm.Cond.and given_1 narrow_1) := by decide +kernel
theorem dk_nc14 : Cond.not (.castable (dk_X 1) (dk_X 4)) ∈ flatC (Jvm.Cond.and given_1 narrow_1) := by decide +kernel
theorem dk_nc21 : Cond.not (.castable (dk_X 2) (dk_X 1)) ∈ flatC (Jvm.Cond.and given_1 narrow_1) := by decide +kernel
theorem dk_nc23 : Cond.not (.castable (dk_X 2) (dk_X 3)) ∈ flatC (Jvm.Cond.and given_1 narrow_1) := by decide +kernel
theorem dk_nc24 : Cond.not (.castable (dk_X 2) (dk_X 4)) ∈ flatC (Jvm.Cond.and given_1 narrow_1) := by decide +kernel
theorem dk_nc31 : Cond.not (.castable (dk_X 3) (dk_X 1)) ∈ flatC (Jvm.Cond.and given_1 narrow_1) := by decide +kernel
theorem dk_nc32 : Cond.not (.castable (dk_X 3) (dk_X 2)) ∈ flatC (Jvm.Cond.and given_1 narrow_1) := by decide +kernel
theorem dk_nc34 : Cond.not (.castable (dk_X 3) (dk_X 4)) ∈ flatC (Jvm.Cond.and given_1 narrow_1) := by decide +kernel
theorem dk_nc41 : Cond.not (.castable (dk_X 4) (dk_X 1)) ∈ flatC (Jvm.Cond.and given_1 narrow_1) := by decide +kernel
theorem dk_nc42 : Cond.not (.castable (dk_X 4) (dk_X 2)) ∈ flatC (Jvm.Cond.and given_1 narrow_1) := by decide +kernel
theorem dk_nc43 : Cond.not (.castable (dk_X 4) (dk_X 3)) ∈ flatC (Jvm.Cond.and given_1 narrow_1) := by decide +kernel
theorem dk_ir1 : Cond.isRef (.static "java/lang/Throwable" "UNASSIGNED_STACK" "[Ljava/lang/StackTraceElement;") ∈ flatC (Jvm.Cond.and given_1 narrow_1) := by decide +kernel
theorem dk_ir2 : Cond.isRef (.static "java/lang/Throwable" "SUPPRESSED_SENTINEL" "Ljava/util/List;") ∈ flatC (Jvm.Cond.and given_1 narrow_1) := by decide +kernel
theorem dk_nc {s : State} {A : Array Value} (hs : ∀ c ∈ flatC (Jvm.Cond.and given_1 narrow_1), c.before A s = true) : ∀ i j, 1 ≤ i → i ≤ 4 → 1 ≤ j → j ≤ 4 → i ≠ j → va_Nc (dk_X i) (dk_X j) s := by
  intro i j h1 h2 h3 h4 h5
  match i, j, h1, h2, h3, h4, h5 with
  | 1, 2, _, _, _, _, _ => exact va_Nc.of (hs _ dk_nc12)
  | 1, 3, _, _, _, _, _ => exact va_Nc.of (hs _ dk_nc13)
  | 1, 4, _, _, _, _, _ => exact va_Nc.of (hs _ dk_nc14)
  | 2, 1, _, _, _, _, _ => exact va_Nc.of (hs _ dk_nc21)
  | 2, 3, _, _, _, _, _ => exact va_Nc.of (hs _ dk_nc23)
  | 2, 4, _, _, _, _, _ => exact va_Nc.of (hs _ dk_nc24)
  | 3, 1, _, _, _, _, _ => exact va_Nc.of (hs _ dk_nc31)
  | 3, 2, _, _, _, _, _ => exact va_Nc.of (hs _ dk_nc32)
  | 3, 4, _, _, _, _, _ => exact va_Nc.of (hs _ dk_nc34)
  | 4, 1, _, _, _, _, _ => exact va_Nc.of (hs _ dk_nc41)
  | 4, 2, _, _, _, _, _ => exact va_Nc.of (hs _ dk_nc42)
  | 4, 3, _, _, _, _, _ => exact va_Nc.of (hs _ dk_nc43)
  | 1, 1, _, _, _, _, h => exact absurd rfl h
  | 2, 2, _, _, _, _, h => exact absurd rfl h
  | 3, 3, _, _, _, _, h => exact absurd rfl h
  | 4, 4, _, _, _, _, h => exact absurd rfl h
  | 0, _, h, _, _, _, _ => omega
  | n + 5, _, _, h, _, _, _ => omega
  | 1, 0, _, _, h, _, _ => omega
  | 1, n + 5, _, _, _, h, _ => omega
  | 2, 0, _, _, h, _, _ => omega
  | 2, n + 5, _, _, _, h, _ => omega
  | 3, 0, _, _, h, _, _ => omega
  | 3, n + 5, _, _, _, h, _ => omega
  | 4, 0, _, _, h, _, _ => omega
  | 4, n + 5, _, _, _, h, _ => omega
theorem dk_laysS : Cond.laysStatic "java/lang/Throwable" "UNASSIGNED_STACK" "[Ljava/lang/StackTraceElement;" ∈ lw_tbl ∧ Cond.laysStatic "java/lang/Throwable" "SUPPRESSED_SENTINEL" "Ljava/util/List;" ∈ lw_tbl := ⟨dk_inT (List.mem_of_getElem? (i := 274) (by decide +kernel)), dk_inT (List.mem_of_getElem? (i := 276) (by decide +kernel))⟩
theorem dk_StaOf {s : State} {A : Array Value} {f d : String} (h1 : (Cond.laysStatic "java/lang/Throwable" f d).before A s = true) (h2 : (Cond.isRef (.static "java/lang/Throwable" f d)).before A s = true) : dk_Sta f d s s.heap := by
  obtain ⟨c, k, i, fd, a, cell, g1, g2, g3, g4, g5, g6, g7, g8, g9⟩ := Cond.laysStatic_spec h1
  refine ⟨c, k, i, fd, a, cell, g1, g2, g3, g4, g5, g6, g7, g8, g9, ?_⟩
  cases hv : (Term.static "java/lang/Throwable" f d).eval A s none [] s with
  | none => simp [Cond.before, Cond.holds, Cond.value, hv] at h2
  | some w =>
    obtain ⟨-, a', cell', ha', hcell', -, hslot⟩ := Term.static_spec g2 hv
    cases g4.symm.trans ha'
    cases g5.symm.trans hcell'
    refine ⟨w, hslot, ?_⟩
    simp only [Cond.before, Cond.holds, Cond.value, hv] at h2
    cases w <;> simp [Value.isRef] at h2 ⊢
