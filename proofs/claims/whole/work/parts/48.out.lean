section
variable {l : Launch} {D : va_G} {ad : dkI → Nat} {cA : Nat → ClassId} {L : Nat} {xs : Nat → Int32} {H0 : Heap} {b mi pc len tg : Nat} {sw : List (Int32 × Nat)} {ls : dkL} {st : List dkV} {h : dkH} {y y1 : dkY}
variable {p : Program} {e : Env} {R : Room} {s : State} {m : MethodId} {args : Array Value} {below : List Frame} {meth : Method} {c : Code} {T : State} {locs : List Loc} {cells slots : Nat}
/-- back from a callee that returned -/
theorem dk_outR {j : Nat} {rest : List dkV} {vo : Option dkV} {la : Array Slot} {mk : MethodId} {av : Array Value} {ig : Instr} {m0 : Nat} {t : State} (hy : y1.2 = .inl vo) (gk : dk_G l D ad cA L xs H0 b mi (pc + 3) ls (vo.toList ++ rest) y1.1 y) (C : dk_Ctx D cA L xs H0 b mi p e R s m meth c) (X : Stand p l e R s m args below meth c T locs cells slots)
    (hm181 : h.2.2.2.1 ≤ 181) (hj600 : h.2.2.2.2 ≤ 600) (hS : va_S (dk_A H0) H0 T.heap locs) (hl : lv_has la (dk_maxL mi) (dk_encL ad ls)) (hlo : dk_lsok h.2.2.2.1 ls) (hso : dk_allok h.2.2.2.1 rest) (hc1 : cells + 1000 ≤ R.cells + (h.2.2.2.1 + h.2.2.2.2)) (hc2 : slots + 2000000 ≤ R.slots + (5120 * h.2.2.2.1 + 6 * h.2.2.2.2)) (hm : m0 ≤ h.2.2.2.1)
    (hd : decode c.code pc = .ok (ig, 3)) (hfin : dk_Fin D ad cA L xs H0 (.java (F0 m pc la (rest.map (dk_enc ad))) :: below) (T.calling (F0 m pc la (rest.map (dk_enc ad))) mk av) (dk_R' R cells slots j) h.2.2.2.1 y1 t) :
    ∃ t2, Steps p.tables e below t t2 ∧ dk_Fin D ad cA L xs H0 below s R m0 y t2 := by
  obtain ⟨o, Lc, k, n, -, hend, hW, hsame, hS2, hR2, hk, hn, hm2, hout⟩ := hfin
  have hv : o = .returned (vo.map (dk_enc ad)) ∧ dk_allok y1.1.2.2.2.1 vo.toList := by
    unfold dk_Out at hout
    rw [hy] at hout
    cases vo with
    | none => exact ⟨hout, fun v hv => by cases hv⟩
    | some v => exact ⟨hout.1, fun w hw => by
        rcases List.mem_singleton.mp hw with rfl
        exact hout.2⟩
  obtain ⟨rfl, hvok⟩ := hv
  obtain ⟨T', X', -, -, ht⟩ := X.outOf (g := F0 m pc la (rest.map (dk_enc ad))) rfl hd hend hW hsame
  have hth : t.heap = T'.heap := by rw [ht]; rfl
  rw [hth] at hR2 hS2
  have hk : k + 1000 ≤ R.cells - cells + (y1.1.2.2.2.1 + y1.1.2.2.2.2) := hk
  have hn : n + 2000000 ≤ R.slots - slots + (5120 * y1.1.2.2.2.1 + 6 * y1.1.2.2.2.2) := hn
  have ka := gk p e R s m args below meth c T'.heap (locs ++ Lc) (cells + k) (slots + n) m0 la C hR2 ⟨hS2.1, hS2.2.1, fun q hq => by
      rcases List.mem_append.mp hq with h1 | h1
      · exact hS.2.2 q h1
      · exact hS2.2.2 q h1⟩ hl (dk_lsokS hm2 hlo) (fun v hv => by
      rcases List.mem_append.mp hv with h1 | h1
      · exact hvok v h1
      · exact dk_allokS hm2 hso v h1) (by omega) (by omega) (by omega) T' rfl X'
  obtain ⟨t2, st2, fin2⟩ := ka
  refine ⟨t2, ?_, fin2⟩
  rw [ht]
  have e1 : (vo.toList ++ rest).map (dk_enc ad) = (vo.map (dk_enc ad)).toList ++ rest.map (dk_enc ad) := by
    rw [List.map_append]
    cases vo <;> rfl
  rw [e1] at st2
  exact st2
/-- back from a callee that threw, and out -/
theorem dk_outT {j ex : Nat} {rest : List dkV} {la : Array Slot} {mk : MethodId} {av : Array Value} {m0 : Nat} {t : State} (hy : y1.2 = .inr ex) (hhan : dk_han mi = []) (C : dk_Ctx D cA L xs H0 b mi p e R s m meth c) (X : Stand p l e R s m args below meth c T locs cells slots)
    (hm181 : h.2.2.2.1 ≤ 181) (hj600 : h.2.2.2.2 ≤ 600) (hS : va_S (dk_A H0) H0 T.heap locs) (hc1 : cells + 1000 ≤ R.cells + (h.2.2.2.1 + h.2.2.2.2)) (hc2 : slots + 2000000 ≤ R.slots + (5120 * h.2.2.2.1 + 6 * h.2.2.2.2)) (hm : m0 ≤ h.2.2.2.1)
    (hfin : dk_Fin D ad cA L xs H0 (.java (F0 m pc la (rest.map (dk_enc ad))) :: below) (T.calling (F0 m pc la (rest.map (dk_enc ad))) mk av) (dk_R' R cells slots j) h.2.2.2.1 y1 t) :
    ∃ t2, Steps p.tables e below t t2 ∧ dk_Fin D ad cA L xs H0 below s R m0 y1 t2 := by
  obtain ⟨o, Lc, k, n, -, hend, hW, hsame, hS2, hR2, hk, hn, hm2, hout⟩ := hfin
  unfold dk_Out at hout
  rw [hy] at hout
  obtain ⟨x, cell, rfl, hx1, hx2, hx3⟩ := hout
  obtain ⟨T', X', -, -, ht⟩ := X.outOfThrown (g := F0 m pc la (rest.map (dk_enc ad))) rfl hend hW hsame
  have hth : t.heap = T'.heap := by rw [ht]; exact Stand.throwing_heap T' _ x
  rw [hth] at hR2 hS2 hx1
  have hk : k + 1000 ≤ R.cells - cells + (y1.1.2.2.2.1 + y1.1.2.2.2.2) := hk
  have hn : n + 2000000 ≤ R.slots - slots + (5120 * y1.1.2.2.2.1 + 6 * y1.1.2.2.2.2) := hn
  have hex : c.exceptionTable.toList = [] := by
    have := C.2.2.2.2.2.2.2.1
    rw [hhan] at this
    exact List.map_eq_nil_iff.mp this
  obtain ⟨l1, l2, l3, l4, l5⟩ := X'.leaveThrown x (g := F0 m pc la (rest.map (dk_enc ad))) rfl rfl rfl (fun z hz => by rw [hex] at hz; cases hz) C.2.2.2.2.2.1
  refine ⟨_, by rw [ht]; exact l1, .threw x, locs ++ Lc, cells + k, slots + n, l2, l3, l4, l5, ⟨hS2.1, hS2.2.1, fun q hq => by
      rcases List.mem_append.mp hq with h1 | h1
      · exact hS.2.2 q h1
      · exact hS2.2.2 q h1⟩, hR2, by omega, by omega, by omega, ?_⟩
  unfold dk_Out
  rw [hy]
  refine ⟨x, cell, rfl, hx1, hx2, ?_⟩
  have hx3 : T.vm.findClass (dk_X ex) = some cell.cls := hx3
  rw [X.warmed.alike.findClass] at hx3
  exact hx3
end
