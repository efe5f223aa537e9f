/-! what holds in a callee's tables -/
theorem dk_Wd_moved {s U : State} (hW : s.WarmedH U.vm) (h : dk_Wd s) : dk_Wd U := by
  intro w hw hk args
  have hb := h w hw hk #[]
  unfold dk_wk at hk
  split at hk
  · exact va_tabs rfl (rfl : (s.setVm U.vm).vm = U.vm) (Cond.fieldLinkNest_warmed (args := #[]) hW hb)
  · exact va_tabs rfl (rfl : (s.setVm U.vm).vm = U.vm) (Cond.methodLinkNest_warmed (args := #[]) hW hb)
  · exact va_AO.use (va_AO.moved hW.alike (va_AO.of hb))
  · have h1 := hb
    rw [← Cond.castable_setVm hW.alike] at h1
    exact va_tabs rfl (rfl : (s.setVm U.vm).vm = U.vm) h1
  · have h1 := Cond.stringRef_warmed hW hb
    first
      | exact va_tabs rfl (rfl : (s.setVm U.vm).vm = U.vm) h1
      | (simp only [Cond.before, Cond.holds, Cond.value, State.names, State.poolOf?, State.resolvedAt?] at h1 ⊢; exact h1)
  · exact va_Nw.use rfl (va_Nw.warmD hW (va_Nw.of rfl hb))
  · exact word_at hW (good_of_word hk) hb
theorem dk_Sta_moved {s U : State} {H0 : Heap} {f d : String} (hvm : s.vm.Alike U.vm) (h : dk_Sta f d s H0) : dk_Sta f d U H0 := by
  obtain ⟨c, k, i, fd, a, cell, h1, h2, h3, h4, h5, h6, h7, h8, h9, h10⟩ := h
  obtain ⟨k', hi', he⟩ := State.fieldFound?_setVm hvm h2
  exact ⟨c, k', i, fd, a, cell, by rw [hvm.findClass]; exact h1, hi', h3, by rw [he]; exact h4, h5, h6, h7, h8, by rw [he]; exact h9, h10⟩
theorem dk_Sys_moved {s U : State} {e : Env} {H0 : Heap} (hvm : s.vm.Alike U.vm) (h : dk_Sys s e H0) : dk_Sys U e H0 := ⟨h.1, fun i j a1 a2 a3 a4 a5 => (h.2.1 i j a1 a2 a3 a4 a5).moved hvm, dk_Sta_moved hvm h.2.2.1, dk_Sta_moved hvm h.2.2.2⟩
/-- a method of the claim in the tables -/
theorem dk_meth {s : State} (h : dk_Wd s) {j : Nat} (hj : j < 104) : ∃ (mk : MethodId) (methk : Method) (ck : Code), s.methodNamed? (dk_y j) = some mk ∧ s.vm.method? mk = some methk ∧ methk.code = some ck ∧ ck.code = dk_bytes j ∧ ck.maxLocals = dk_maxL j ∧
    ck.exceptionTable.toList.map (fun h => (h.startPc, h.endPc, h.handlerPc, h.catchType)) = dk_han j ∧ methk.sig.returnType = dk_rtT j ∧ methk.locks = false ∧ parseMethodDescriptor (dk_y j).desc = some methk.sig ∧ methk.name = (dk_y j).name := by
  have hw := dk_code_w hj
  unfold dk_codeW at hw
  split at hw
  · rename_i hh
    have hb := h _ hw rfl #[]
    obtain ⟨mk, hn⟩ := Cond.code_named hb
    obtain ⟨methk, ck, h1, h2, h3, h4, h5, h6, h7, h8⟩ := Cond.code_spec hn hb
    refine ⟨mk, methk, ck, hn, h1, h2, h3, h4, ?_, h5, h6, h8, (name_of_methodNamed hn h1).1⟩
    rw [hh]
    have h0 : ck.exceptionTable.size = 0 := by simpa [Array.isEmpty] using h7
    have h1 : ck.exceptionTable.toList = [] := List.eq_nil_of_length_eq_zero (by simpa using h0)
    rw [h1]; rfl
  · have hb := h _ hw rfl #[]
    obtain ⟨mk, methk, ck, hn, h1, h2, h3, h4, h5, h6, h7, h8⟩ := Cond.codeWith_spec hb
    exact ⟨mk, methk, ck, hn, h1, h2, h3, h4, h5, h6, h7, h8, (name_of_methodNamed hn h1).1⟩
theorem dk_rt_of {j : Nat} {r : Option FieldType} (h : r = dk_rtT j) : dk_rt j r := by
  subst h
  unfold dk_rtT dk_rt
  generalize dk_ret j = r
  match r with
  | 0 => rfl
  | 1 => rfl
  | 2 => rfl
  | n + 3 => exact ⟨_, rfl⟩
theorem dk_plainM {s : State} {mk : MethodId} {j : Nat} (hn : s.methodNamed? (dk_y j) = some mk) : s.plainMethod mk := by
  refine State.plainMethod.of_name fun k hk => ?_
  obtain ⟨k2, hk2, hn2⟩ := className_of_methodNamed hn
  cases hk.symm.trans hk2
  rw [hn2, dk_ycls]
  exact (dk_plainN _ (dk_ocL j)).1
theorem dk_named_moved {s U : State} (hvm : s.vm.Alike U.vm) {y : MethodName} {mk : MethodId} (h : s.methodNamed? y = some mk) : U.methodNamed? y = some mk := by
  have q : (s.setVm U.vm).methodNamed? y = some mk := by rw [State.methodNamed?_setVm hvm]; exact h
  exact q
/-! arguments -/
theorem dk_argok_len : ∀ (ss : List Nat) (vs : List dkV), dk_argok ss vs = true → vs.length = ss.length
  | [], [], _ => rfl
  | [], _ :: _, h => by simp [dk_argok] at h
  | _ :: _, [], h => by simp [dk_argok] at h
  | s :: ss, v :: vs, h => by
    simp only [dk_argok, Bool.and_eq_true] at h
    rw [List.length_cons, List.length_cons, dk_argok_len ss vs h.2]
theorem dk_argok_noL : ∀ (ss : List Nat) (vs : List dkV), dk_argok ss vs = true → ∀ v ∈ vs, dk_isL v = false
  | [], [], _ => fun v hv => by cases hv
  | [], _ :: _, h => by simp [dk_argok] at h
  | _ :: _, [], h => by simp [dk_argok] at h
  | s :: ss, v :: vs, h => by
    simp only [dk_argok, Bool.and_eq_true] at h
    intro w hw
    rcases List.mem_cons.mp hw with rfl | hw
    · rcases w with x | a | x
      · rfl
      · rfl
      · simp [dk_argk] at h
    · exact dk_argok_noL ss vs h.2 w hw
theorem dk_catN {ad : dkI → Nat} {v : dkV} (h : dk_isL v = false) : ¬ (dk_enc ad v).category = 2 := by
  rcases v with x | a | x
  · simp [dk_enc, Value.category]
  · simp [dk_enc, Value.category]
  · simp [dk_isL] at h
theorem dk_lvargs {ad : dkI → Nat} : ∀ (i : Nat) (vs : List dkV), (∀ v ∈ vs, dk_isL v = false) → lv_args i (vs.map (dk_enc ad)) = dk_encL ad (dk_args i vs)
  | i, [], _ => rfl
  | i, v :: vs, h => by
    rw [List.map_cons, lv_args, if_neg (dk_catN (h v List.mem_cons_self)), dk_lvargs (i + 1) vs (fun w hw => h w (List.mem_cons_of_mem _ hw))]
    rfl
theorem dk_lgsl {ad : dkI → Nat} : ∀ (vs : List dkV), (∀ v ∈ vs, dk_isL v = false) → (lg_sl (vs.map (dk_enc ad))).length = vs.length
  | [], _ => rfl
  | v :: vs, h => by
    have ih := dk_lgsl (ad := ad) vs (fun w hw => h w (List.mem_cons_of_mem _ hw))
    unfold lg_sl at ih ⊢
    rw [List.map_cons, List.flatMap_cons, if_neg (dk_catN (h v List.mem_cons_self)), List.length_append, ih]
    simp [Nat.add_comm]
theorem dk_argsok {made : Nat} : ∀ (i : Nat) (vs : List dkV), dk_allok made vs → dk_lsok made (dk_args i vs)
  | i, [], _ => fun q hq => by cases hq
  | i, v :: vs, h => fun q hq => by
    rcases List.mem_cons.mp hq with rfl | hq
    · exact dk_alH h
    · exact dk_argsok (i + 1) vs (dk_alT h) q hq
theorem dk_sigL : ∀ j, j < 105 → (dk_sig j).length ≤ dk_maxL j := by decide +kernel
theorem dk_catsum {ad : dkI → Nat} : ∀ (st : List dkV), ((st.map (dk_enc ad)).map fun v => v.category).sum ≤ 2 * st.length
  | [] => by simp
  | v :: st => by
    have ih := dk_catsum (ad := ad) st
    have h1 : (dk_enc ad v).category ≤ 2 := by rcases v with x | a | x <;> simp [dk_enc, Value.category]
    simp only [List.map_cons, List.sum_cons, List.length_cons]
    omega
theorem dk_Steps_weaken {tb : Tables} {e : Env} {g : Frame} {below : List Frame} {a b : State} (h : Steps tb e (g :: below) a b) : Steps tb e below a b := by
  obtain ⟨n, hn, w⟩ := h
  exact ⟨n, hn, fun k hk => (Within.weaken (mid := [g]) (w k hk))⟩
