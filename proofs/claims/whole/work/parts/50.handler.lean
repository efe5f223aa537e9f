def dk_chk4 (mi : Nat) (q : Nat × dkE) : Bool := match q.2.1 with
  | .astore_n k => Nat.blt k.val (dk_maxL mi)
  | .astore k => Nat.blt k (dk_maxL mi)
  | _ => true
theorem dk_n0 : dk_c0.all (dk_chk4 0) = true := by decide +kernel
theorem dk_n1 : dk_c1.all (dk_chk4 1) = true := by decide +kernel
theorem dk_n2 : dk_c2.all (dk_chk4 2) = true := by decide +kernel
theorem dk_n3 : dk_c3.all (dk_chk4 3) = true := by decide +kernel
theorem dk_n4 : dk_c4.all (dk_chk4 4) = true := by decide +kernel
theorem dk_n5 : dk_c5.all (dk_chk4 5) = true := by decide +kernel
theorem dk_n6 : dk_c6.all (dk_chk4 6) = true := by decide +kernel
theorem dk_n7 : dk_c7.all (dk_chk4 7) = true := by decide +kernel
theorem dk_n8 : dk_c8.all (dk_chk4 8) = true := by decide +kernel
theorem dk_n9 : dk_c9.all (dk_chk4 9) = true := by decide +kernel
theorem dk_n10 : dk_c10.all (dk_chk4 10) = true := by decide +kernel
theorem dk_n11 : dk_c11.all (dk_chk4 11) = true := by decide +kernel
theorem dk_n12 : dk_c12.all (dk_chk4 12) = true := by decide +kernel
theorem dk_n13 : dk_c13.all (dk_chk4 13) = true := by decide +kernel
theorem dk_n14 : dk_c14.all (dk_chk4 14) = true := by decide +kernel
theorem dk_n15 : dk_c15.all (dk_chk4 15) = true := by decide +kernel
theorem dk_n16 : dk_c16.all (dk_chk4 16) = true := by decide +kernel
theorem dk_n17 : dk_c17.all (dk_chk4 17) = true := by decide +kernel
theorem dk_n18 : dk_c18.all (dk_chk4 18) = true := by decide +kernel
theorem dk_n19 : dk_c19.all (dk_chk4 19) = true := by decide +kernel
theorem dk_n20 : dk_c20.all (dk_chk4 20) = true := by decide +kernel
theorem dk_n21 : dk_c21.all (dk_chk4 21) = true := by decide +kernel
theorem dk_n22 : dk_c22.all (dk_chk4 22) = true := by decide +kernel
theorem dk_n23 : dk_c23.all (dk_chk4 23) = true := by decide +kernel
theorem dk_n24 : dk_c24.all (dk_chk4 24) = true := by decide +kernel
theorem dk_n25 : dk_c25.all (dk_chk4 25) = true := by decide +kernel
theorem dk_n26 : dk_c26.all (dk_chk4 26) = true := by decide +kernel
theorem dk_n27 : dk_c27.all (dk_chk4 27) = true := by decide +kernel
theorem dk_n28 : dk_c28.all (dk_chk4 28) = true := by decide +kernel
theorem dk_n29 : dk_c29.all (dk_chk4 29) = true := by decide +kernel
theorem dk_n30 : dk_c30.all (dk_chk4 30) = true := by decide +kernel
theorem dk_n31 : dk_c31.all (dk_chk4 31) = true := by decide +kernel
theorem dk_n32 : dk_c32.all (dk_chk4 32) = true := by decide +kernel
theorem dk_n33 : dk_c33.all (dk_chk4 33) = true := by decide +kernel
theorem dk_n34 : dk_c34.all (dk_chk4 34) = true := by decide +kernel
theorem dk_n35 : dk_c35.all (dk_chk4 35) = true := by decide +kernel
theorem dk_n36 : dk_c36.all (dk_chk4 36) = true := by decide +kernel
theorem dk_n37 : dk_c37.all (dk_chk4 37) = true := by decide +kernel
theorem dk_n38 : dk_c38.all (dk_chk4 38) = true := by decide +kernel
theorem dk_n39 : dk_c39.all (dk_chk4 39) = true := by decide +kernel
theorem dk_n40 : dk_c40.all (dk_chk4 40) = true := by decide +kernel
theorem dk_n41 : dk_c41.all (dk_chk4 41) = true := by decide +kernel
theorem dk_n42 : dk_c42.all (dk_chk4 42) = true := by decide +kernel
theorem dk_n43 : dk_c43.all (dk_chk4 43) = true := by decide +kernel
theorem dk_n44 : dk_c44.all (dk_chk4 44) = true := by decide +kernel
theorem dk_n45 : dk_c45.all (dk_chk4 45) = true := by decide +kernel
theorem dk_n46 : dk_c46.all (dk_chk4 46) = true := by decide +kernel
theorem dk_n47 : dk_c47.all (dk_chk4 47) = true := by decide +kernel
theorem dk_n48 : dk_c48.all (dk_chk4 48) = true := by decide +kernel
theorem dk_n49 : dk_c49.all (dk_chk4 49) = true := by decide +kernel
theorem dk_n50 : dk_c50.all (dk_chk4 50) = true := by decide +kernel
theorem dk_n51 : dk_c51.all (dk_chk4 51) = true := by decide +kernel
theorem dk_n52 : dk_c52.all (dk_chk4 52) = true := by decide +kernel
theorem dk_n53 : dk_c53.all (dk_chk4 53) = true := by decide +kernel
theorem dk_n54 : dk_c54.all (dk_chk4 54) = true := by decide +kernel
theorem dk_n55 : dk_c55.all (dk_chk4 55) = true := by decide +kernel
theorem dk_n56 : dk_c56.all (dk_chk4 56) = true := by decide +kernel
theorem dk_n57 : dk_c57.all (dk_chk4 57) = true := by decide +kernel
theorem dk_n58 : dk_c58.all (dk_chk4 58) = true := by decide +kernel
theorem dk_n59 : dk_c59.all (dk_chk4 59) = true := by decide +kernel
theorem dk_n60 : dk_c60.all (dk_chk4 60) = true := by decide +kernel
theorem dk_n61 : dk_c61.all (dk_chk4 61) = true := by decide +kernel
theorem dk_n62 : dk_c62.all (dk_chk4 62) = true := by decide +kernel
theorem dk_n63 : dk_c63.all (dk_chk4 63) = true := by decide +kernel
theorem dk_n64 : dk_c64.all (dk_chk4 64) = true := by decide +kernel
theorem dk_n65 : dk_c65.all (dk_chk4 65) = true := by decide +kernel
theorem dk_n66 : dk_c66.all (dk_chk4 66) = true := by decide +kernel
theorem dk_n67 : dk_c67.all (dk_chk4 67) = true := by decide +kernel
theorem dk_n68 : dk_c68.all (dk_chk4 68) = true := by decide +kernel
theorem dk_n69 : dk_c69.all (dk_chk4 69) = true := by decide +kernel
theorem dk_n70 : dk_c70.all (dk_chk4 70) = true := by decide +kernel
theorem dk_n71 : dk_c71.all (dk_chk4 71) = true := by decide +kernel
theorem dk_n72 : dk_c72.all (dk_chk4 72) = true := by decide +kernel
theorem dk_n73 : dk_c73.all (dk_chk4 73) = true := by decide +kernel
theorem dk_n74 : dk_c74.all (dk_chk4 74) = true := by decide +kernel
theorem dk_n75 : dk_c75.all (dk_chk4 75) = true := by decide +kernel
theorem dk_n76 : dk_c76.all (dk_chk4 76) = true := by decide +kernel
theorem dk_n77 : dk_c77.all (dk_chk4 77) = true := by decide +kernel
theorem dk_n78 : dk_c78.all (dk_chk4 78) = true := by decide +kernel
theorem dk_n79 : dk_c79.all (dk_chk4 79) = true := by decide +kernel
theorem dk_n80 : dk_c80.all (dk_chk4 80) = true := by decide +kernel
theorem dk_n81 : dk_c81.all (dk_chk4 81) = true := by decide +kernel
theorem dk_n82 : dk_c82.all (dk_chk4 82) = true := by decide +kernel
theorem dk_n83 : dk_c83.all (dk_chk4 83) = true := by decide +kernel
theorem dk_n84 : dk_c84.all (dk_chk4 84) = true := by decide +kernel
theorem dk_n85 : dk_c85.all (dk_chk4 85) = true := by decide +kernel
theorem dk_n86 : dk_c86.all (dk_chk4 86) = true := by decide +kernel
theorem dk_n87 : dk_c87.all (dk_chk4 87) = true := by decide +kernel
theorem dk_n88 : dk_c88.all (dk_chk4 88) = true := by decide +kernel
theorem dk_n89 : dk_c89.all (dk_chk4 89) = true := by decide +kernel
theorem dk_n90 : dk_c90.all (dk_chk4 90) = true := by decide +kernel
theorem dk_n91 : dk_c91.all (dk_chk4 91) = true := by decide +kernel
theorem dk_n92 : dk_c92.all (dk_chk4 92) = true := by decide +kernel
theorem dk_n93 : dk_c93.all (dk_chk4 93) = true := by decide +kernel
theorem dk_n94 : dk_c94.all (dk_chk4 94) = true := by decide +kernel
theorem dk_n95 : dk_c95.all (dk_chk4 95) = true := by decide +kernel
theorem dk_n96 : dk_c96.all (dk_chk4 96) = true := by decide +kernel
theorem dk_n97 : dk_c97.all (dk_chk4 97) = true := by decide +kernel
theorem dk_n98 : dk_c98.all (dk_chk4 98) = true := by decide +kernel
theorem dk_n99 : dk_c99.all (dk_chk4 99) = true := by decide +kernel
theorem dk_n100 : dk_c100.all (dk_chk4 100) = true := by decide +kernel
theorem dk_n101 : dk_c101.all (dk_chk4 101) = true := by decide +kernel
theorem dk_n102 : dk_c102.all (dk_chk4 102) = true := by decide +kernel
theorem dk_n103 : dk_c103.all (dk_chk4 103) = true := by decide +kernel
theorem dk_n104 : dk_c104.all (dk_chk4 104) = true := by decide +kernel
theorem dk_nall (mi : Nat) : (dk_code mi).all (dk_chk4 mi) = true := by
  match mi with
  | 0 => exact dk_n0
  | 1 => exact dk_n1
  | 2 => exact dk_n2
  | 3 => exact dk_n3
  | 4 => exact dk_n4
  | 5 => exact dk_n5
  | 6 => exact dk_n6
  | 7 => exact dk_n7
  | 8 => exact dk_n8
  | 9 => exact dk_n9
  | 10 => exact dk_n10
  | 11 => exact dk_n11
  | 12 => exact dk_n12
  | 13 => exact dk_n13
  | 14 => exact dk_n14
  | 15 => exact dk_n15
  | 16 => exact dk_n16
  | 17 => exact dk_n17
  | 18 => exact dk_n18
  | 19 => exact dk_n19
  | 20 => exact dk_n20
  | 21 => exact dk_n21
  | 22 => exact dk_n22
  | 23 => exact dk_n23
  | 24 => exact dk_n24
  | 25 => exact dk_n25
  | 26 => exact dk_n26
  | 27 => exact dk_n27
  | 28 => exact dk_n28
  | 29 => exact dk_n29
  | 30 => exact dk_n30
  | 31 => exact dk_n31
  | 32 => exact dk_n32
  | 33 => exact dk_n33
  | 34 => exact dk_n34
  | 35 => exact dk_n35
  | 36 => exact dk_n36
  | 37 => exact dk_n37
  | 38 => exact dk_n38
  | 39 => exact dk_n39
  | 40 => exact dk_n40
  | 41 => exact dk_n41
  | 42 => exact dk_n42
  | 43 => exact dk_n43
  | 44 => exact dk_n44
  | 45 => exact dk_n45
  | 46 => exact dk_n46
  | 47 => exact dk_n47
  | 48 => exact dk_n48
  | 49 => exact dk_n49
  | 50 => exact dk_n50
  | 51 => exact dk_n51
  | 52 => exact dk_n52
  | 53 => exact dk_n53
  | 54 => exact dk_n54
  | 55 => exact dk_n55
  | 56 => exact dk_n56
  | 57 => exact dk_n57
  | 58 => exact dk_n58
  | 59 => exact dk_n59
  | 60 => exact dk_n60
  | 61 => exact dk_n61
  | 62 => exact dk_n62
  | 63 => exact dk_n63
  | 64 => exact dk_n64
  | 65 => exact dk_n65
  | 66 => exact dk_n66
  | 67 => exact dk_n67
  | 68 => exact dk_n68
  | 69 => exact dk_n69
  | 70 => exact dk_n70
  | 71 => exact dk_n71
  | 72 => exact dk_n72
  | 73 => exact dk_n73
  | 74 => exact dk_n74
  | 75 => exact dk_n75
  | 76 => exact dk_n76
  | 77 => exact dk_n77
  | 78 => exact dk_n78
  | 79 => exact dk_n79
  | 80 => exact dk_n80
  | 81 => exact dk_n81
  | 82 => exact dk_n82
  | 83 => exact dk_n83
  | 84 => exact dk_n84
  | 85 => exact dk_n85
  | 86 => exact dk_n86
  | 87 => exact dk_n87
  | 88 => exact dk_n88
  | 89 => exact dk_n89
  | 90 => exact dk_n90
  | 91 => exact dk_n91
  | 92 => exact dk_n92
  | 93 => exact dk_n93
  | 94 => exact dk_n94
  | 95 => exact dk_n95
  | 96 => exact dk_n96
  | 97 => exact dk_n97
  | 98 => exact dk_n98
  | 99 => exact dk_n99
  | 100 => exact dk_n100
  | 101 => exact dk_n101
  | 102 => exact dk_n102
  | 103 => exact dk_n103
  | 104 => exact dk_n104
  | n + 105 => rfl
theorem dk_ast {mi pc : Nat} {en : dkE} (h : dk_find (dk_code mi) pc = some en) : dk_chk4 mi (pc, en) = true := List.all_eq_true.mp (dk_nall mi) _ (dk_find_mem _ _ _ h)
theorem dk_scan_mem {pc ex hp : Nat} : ∀ (l : List (Nat × Nat × Nat × Nat)), dk_scan pc ex l = some hp → ∃ q ∈ l, dk_exc q.2.2.2 = ex
  | [], h => by simp [dk_scan] at h
  | q :: r, h => by
    rw [dk_scan] at h
    by_cases hq : q.1 ≤ pc ∧ pc < q.2.1 ∧ dk_exc q.2.2.2 = ex
    · exact ⟨q, List.mem_cons_self, hq.2.2⟩
    · rw [if_neg hq] at h
      obtain ⟨z, h1, h2⟩ := dk_scan_mem r h
      exact ⟨z, List.mem_cons_of_mem _ h1, h2⟩
theorem dk_encdel {ad : dkI → Nat} {ls : dkL} {k : Nat} {v : Value} {la : Array Slot} {n : Nat} (h : lv_has la n ((k, v) :: (dk_encL ad ls).filter (fun q => !(q.1 == k) && !(q.1 + 1 == k && q.2.category == 2)))) : lv_has la n (dk_encL ad (dk_del ls k)) := by
  refine ⟨h.1, h.2.1, fun q hq => h.2.2 q (List.mem_cons_of_mem _ ?_)⟩
  have e1 : dk_encL ad (dk_del ls k) = (dk_encL ad ls).filter (fun q => !(q.1 == k) && !(q.1 + 1 == k && q.2.category == 2)) := by
    simp only [dk_encL, dk_del, List.filter_map]
    congr 1
    apply List.filter_congr
    intro q _
    simp only [Function.comp, dk_cat]
  rw [← e1]; exact hq
section
variable {l : Launch} {D : va_G} {ad : dkI → Nat} {cA : Nat → ClassId} {L : Nat} {xs : Nat → Int32} {H0 : Heap} {b mi pc len tg : Nat} {sw : List (Int32 × Nat)} {ls : dkL} {st : List dkV} {h : dkH} {y y1 : dkY}
variable {p : Program} {e : Env} {R : Room} {s : State} {m : MethodId} {args : Array Value} {below : List Frame} {meth : Method} {c : Code} {T : State} {locs : List Loc} {cells slots : Nat}
/-- back from a callee that threw, into a handler -/
theorem dk_outC {j ex t1 k1 : Nat} {rest : List dkV} {la : Array Slot} {mk : MethodId} {av : Array Value} {m0 : Nat} {t : State} (hy : y1.2 = .inr ex) (hhnd : dk_hnd mi pc ex = some (t1, k1)) (gk : dk_G l D ad cA L xs H0 b mi t1 (dk_del ls k1) [] y1.1 y) (C : dk_Ctx D cA L xs H0 b mi p e R s m meth c) (X : Stand p l e R s m args below meth c T locs cells slots)
    (hm181 : h.2.2.2.1 ≤ 181) (hj600 : h.2.2.2.2 ≤ 600) (hS : va_S (dk_A H0) H0 T.heap locs) (hl : lv_has la (dk_maxL mi) (dk_encL ad ls)) (hlo : dk_lsok h.2.2.2.1 ls) (hc1 : cells + 1000 ≤ R.cells + (h.2.2.2.1 + h.2.2.2.2)) (hc2 : slots + 2000000 ≤ R.slots + (5120 * h.2.2.2.1 + 6 * h.2.2.2.2)) (hm : m0 ≤ h.2.2.2.1)
    (hfin : dk_Fin D ad cA L xs H0 (.java (F0 m pc la (rest.map (dk_enc ad))) :: below) (T.calling (F0 m pc la (rest.map (dk_enc ad))) mk av) (dk_R' R cells slots j) h.2.2.2.1 y1 t) :
    ∃ t2, Steps p.tables e below t t2 ∧ dk_Fin D ad cA L xs H0 below s R m0 y t2 := by
  obtain ⟨o, Lc, k, n, -, hend, hW, hsame, hS2, hR2, hk, hn, hm2, hout⟩ := hfin
  unfold dk_Out at hout
  rw [hy] at hout
  obtain ⟨x, cell, rfl, hx1, hx2, hx3⟩ := hout
  obtain ⟨T', X', -, -, ht⟩ := X.outOfThrown (g := F0 m pc la (rest.map (dk_enc ad))) rfl hend hW hsame
  have hth : t.heap = T'.heap := by rw [ht]; exact Stand.throwing_heap T' _ x
  rw [hth] at hR2 hS2 hx1
  have hk : k + 1000 ≤ R.cells - cells + (y1.1.2.2.2.1 + y1.1.2.2.2.2) := hk
  have hn : n + 2000000 ≤ R.slots - slots + (5120 * y1.1.2.2.2.1 + 6 * y1.1.2.2.2.2) := hn
  have hx3 : s.vm.findClass (dk_X ex) = some cell.cls := by
    have q : T.vm.findClass (dk_X ex) = some cell.cls := hx3
    rw [X.warmed.alike.findClass] at q
    exact q
  unfold dk_hnd at hhnd
  cases hsc : dk_scan pc ex (dk_han mi) with
  | none => rw [hsc] at hhnd; cases hhnd
  | some hp =>
    rw [hsc] at hhnd
    simp only at hhnd
    have hall := List.all_eq_true.mp (dk_hqall mi)
    obtain ⟨q, hq1, hq2⟩ := dk_scan_mem _ hsc
    have hqq := hall q hq1
    simp only [dk_hq, Bool.and_eq_true, decide_eq_true_eq, Nat.ble_eq, Nat.blt_eq, hq2] at hqq
    have hex1 := hqq.1.1.1.2
    have hex4 := hqq.1.1.2
    have htab := C.2.2.2.2.2.2.2.1
    obtain ⟨vm', hW', hfind⟩ := dk_finds (l := l) C X.admits (f := F0 m pc la (rest.map (dk_enc ad))) rfl hex1 hex4 hx2 hx3 c.exceptionTable.toList ((T'.setTop (F0 m pc la (rest.map (dk_enc ad)))).pushFrame (.throwing x))
      (fun z hz => hall _ (by rw [← htab]; exact List.mem_map.mpr ⟨z, hz, rfl⟩)) (by rw [Stand.throwing_vm]; exact X'.warmed) (by rw [Stand.throwing_heap]; exact hx1) (by rw [htab]; exact hsc)
    have hfind2 : ∀ (Q : Handler → Pre) (E : CtlPost) (d : Bool) (acts : List Action), wp (findHandler (F0 m pc la (rest.map (dk_enc ad))) x) Q E e d acts ((T'.setTop (F0 m pc la (rest.map (dk_enc ad)))).pushFrame (.throwing x)) ↔ Q (.found hp) d acts (((T'.setTop (F0 m pc la (rest.map (dk_enc ad)))).pushFrame (.throwing x)).setVm vm') := fun Q E d acts => by
      rw [W.findHandler_eq (meth := meth) (code := c) (by rw [Stand.throwing_vm]; exact X'.method') X'.code]
      exact hfind Q E d acts
    have X2 := X'.noted hW'
    have fin : ∀ (la' : Array Slot), lv_has la' (dk_maxL mi) (dk_encL ad (dk_del ls k1)) → W p l e R s m args below meth c T'.heap (locs ++ Lc) (cells + k) (slots + n) (dk_Fin D ad cA L xs H0 below s R m0 y) (F0 m t1 la' []) := fun la' hl' =>
      gk p e R s m args below meth c T'.heap (locs ++ Lc) (cells + k) (slots + n) m0 la' C hR2 ⟨hS2.1, hS2.2.1, fun q hq => by
        rcases List.mem_append.mp hq with h1 | h1
        · exact hS.2.2 q h1
        · exact hS2.2.2 q h1⟩ hl' (fun q hq => dk_lsokS hm2 hlo q (List.mem_filter.mp hq).1) (fun v hv => by cases hv) (by omega) (by omega) (by omega)
    have hwalk : W p l e R s m args below meth c T'.heap (locs ++ Lc) (cells + k) (slots + n) (dk_Fin D ad cA L xs H0 below s R m0 y) (F0 m hp la [.ref x]) := by
      cases hfe : dk_find (dk_code mi) hp with
      | none => rw [hfe] at hhnd; cases hhnd
      | some en =>
        rw [hfe] at hhnd
        obtain ⟨ins, ln, tg', sw'⟩ := en
        have hast := dk_ast hfe
        obtain ⟨hd, htk⟩ := dk_dec hfe
        split at hhnd
        · rename_i heq
          cases heq
          cases hhnd
          obtain rfl : ln = 1 := by simpa [dk_tok, dk_il] using htk
          simp only [dk_chk4, Nat.blt_eq] at hast
          exact lv_astore_n C.1 C.2.2.1 hd rfl hl hast rfl (fun la' hl' => fin la' (dk_encdel hl'))
        · rename_i heq
          cases heq
          cases hhnd
          obtain rfl : ln = 2 := by simpa [dk_tok, dk_il] using htk
          simp only [dk_chk4, Nat.blt_eq] at hast
          exact lv_astore C.1 C.2.2.1 hd hl hast rfl (fun la' hl' => fin la' (dk_encdel hl'))
        · cases hhnd
    obtain ⟨t2, st2, fin2⟩ := hwalk (T'.setVm vm') rfl X2
    refine ⟨t2, ?_, fin2⟩
    rw [ht]
    exact dk_caught (g := F0 m pc la (rest.map (dk_enc ad))) X'.here hfind2 st2
end
