section
variable {l : Launch} {D : va_G} {ad : dkI → Nat} {cA : Nat → ClassId} {L : Nat} {xs : Nat → Int32} {H0 : Heap} {b mi pc len tg : Nat} {sw : List (Int32 × Nat)} {ls : dkL} {st : List dkV} {h : dkH} {y y1 : dkY}
variable {p : Program} {e : Env} {R : Room} {s : State} {m : MethodId} {args : Array Value} {below : List Frame} {meth : Method} {c : Code} {T : State} {locs : List Loc} {cells slots : Nat}
def dk_R' (R : Room) (cells slots j : Nat) : Room := { frames := R.frames - 1, cells := R.cells - cells, slots := R.slots - slots, locals := R.locals - (8 + dk_maxL j + 11) }
/-- into a callee and through it -/
theorem dk_into {j : Nat} {vs rest : List dkV} {la : Array Slot} {mk : MethodId} {ig : Instr} {ln : Nat} (gc : dk_G l D ad cA L xs H0 b j 0 (dk_args 0 vs) [] h y1) (C : dk_Ctx D cA L xs H0 b mi p e R s m meth c) (X : Stand p l e R s m args below meth c T locs cells slots)
    (hR : dk_Rep D ad cA L xs H0 h T.heap) (hS : va_S (dk_A H0) H0 T.heap locs) (hsz : la.size = dk_maxL mi) (hc1 : cells + 1000 ≤ R.cells + (h.2.2.2.1 + h.2.2.2.2)) (hc2 : slots + 2000000 ≤ R.slots + (5120 * h.2.2.2.1 + 6 * h.2.2.2.2))
    (hj : j < 104) (hmk : s.methodNamed? (dk_y j) = some mk) (hav : dk_argok (dk_sig j) vs = true) (hvok : dk_allok h.2.2.2.1 vs) (hrl : rest.length ≤ 4) (hfr : dk_fr j + 1 ≤ dk_fr mi) (hlo : 8 + dk_maxL j + 11 + dk_lo j ≤ dk_lo mi) (hd : decode c.code pc = .ok (ig, ln)) :
    ∃ t, (∀ acts, Steps p.tables e below (doInvoke e (T.setTop (F0 m pc la (rest.map (dk_enc ad)))) acts mk (vs.map (dk_enc ad)).toArray).1 t) ∧
      dk_Fin D ad cA L xs H0 (.java (F0 m pc la (rest.map (dk_enc ad))) :: below) (T.calling (F0 m pc la (rest.map (dk_enc ad))) mk (vs.map (dk_enc ad)).toArray) (dk_R' R cells slots j) h.2.2.2.1 y1 t := by
  obtain ⟨mk2, methk, ck, hn, h1, h2, h3, h4, h5, h6, h7, h8, h9⟩ := dk_meth C.2.2.2.2.2.2.2.2.2.1 hj
  cases hmk.symm.trans hn
  have hal := X.warmed.alike
  have hm181 := hR.2.2.1
  have hj600 := hR.2.2.2.1
  have hFR := C.2.1.1
  have hLO := C.2.1.2.1
  obtain ⟨X2, hin⟩ := X.into (g := F0 m pc la (rest.map (dk_enc ad))) rfl (by rw [C.2.2.2.1]; exact hsz) hd (mk := mk) (methk := methk) (ck := ck) (vs.map (dk_enc ad)).toArray (R' := dk_R' R cells slots j)
    (by rw [hal.method?]; exact h1) h2 h7 (dk_plainM (dk_named_moved hal hmk)) (by show R.frames - 1 + 1 ≤ R.frames; omega)
    (by
      show 2 * 0 + ((rest.map (dk_enc ad)).map fun v => v.category).sum + (ck.maxLocals + 11) + (R.locals - (8 + dk_maxL j + 11)) ≤ R.locals
      have := dk_catsum (ad := ad) rest
      rw [h4]; omega)
    (by show cells + (R.cells - cells) ≤ R.cells; omega) (by show slots + (R.slots - slots) ≤ R.slots; omega)
  have hnoL := dk_argok_noL _ _ hav
  have hlen := dk_argok_len _ _ hav
  have hle := dk_lvargs (ad := ad) 0 vs hnoL
  have hsl := dk_lgsl (ad := ad) vs hnoL
  have hent := lv_entry (vs.map (dk_enc ad)) (n := dk_maxL j) (by rw [hsl, hlen]; exact dk_sigL j (by omega))
  rw [hle] at hent
  have hheap : (T.calling (F0 m pc la (rest.map (dk_enc ad))) mk (vs.map (dk_enc ad)).toArray).heap = T.heap := rfl
  have hvm : (T.calling (F0 m pc la (rest.map (dk_enc ad))) mk (vs.map (dk_enc ad)).toArray).vm = T.vm := rfl
  have hWm : s.WarmedH (T.calling (F0 m pc la (rest.map (dk_enc ad))) mk (vs.map (dk_enc ad)).toArray).vm := X.warmed
  have C2 : dk_Ctx D cA L xs H0 b j p e (dk_R' R cells slots j) (T.calling (F0 m pc la (rest.map (dk_enc ad))) mk (vs.map (dk_enc ad)).toArray) mk methk ck := by
    refine ⟨C.1, ⟨by show dk_fr j ≤ R.frames - 1; omega, by show dk_lo j ≤ R.locals - (8 + dk_maxL j + 11); omega, dk_Sys_moved hWm.alike C.2.1.2.2.1, fun q hq => hS.2.1 q hq (dk_notA hq)⟩, h3, h4, dk_rt_of h6, h7, h9, h5, ?_, dk_Wd_moved hWm C.2.2.2.2.2.2.2.2.2.1, va_K.moved hWm.alike C.2.2.2.2.2.2.2.2.2.2.1, va_X.moved hWm.alike C.2.2.2.2.2.2.2.2.2.2.2⟩
    have hf := findClass_of_methodNamed (dk_named_moved hWm.alike hmk)
    rw [dk_ycls] at hf
    exact hf
  obtain ⟨t, hst, hfin⟩ := gc p e (dk_R' R cells slots j) _ mk (vs.map (dk_enc ad)).toArray (.java (F0 m pc la (rest.map (dk_enc ad))) :: below) methk ck T.heap [] 0 0 h.2.2.2.1 _ C2 hR ⟨hS.1, hS.2.1, fun q hq => by cases hq⟩ hent (dk_argsok 0 vs hvok) (fun v hv => by cases hv)
    (by show 0 + 1000 ≤ R.cells - cells + _; omega) (by show 0 + 2000000 ≤ R.slots - slots + _; omega) (Nat.le_refl _) ((T.setTop (F0 m pc la (rest.map (dk_enc ad)))).pushFrame (.java (entryFrame mk (vs.map (dk_enc ad)).toArray ck.maxLocals))) rfl X2
  refine ⟨t, fun acts => ?_, hfin⟩
  rw [hin acts]
  rw [h4, lg_entry_eq] at hst ⊢
  exact dk_Steps_weaken hst
end
