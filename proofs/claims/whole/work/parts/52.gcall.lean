section
variable {l : Launch} {D : va_G} {ad : dkI → Nat} {cA : Nat → ClassId} {L : Nat} {xs : Nat → Int32} {H0 : Heap} {b mi pc len tg : Nat} {sw : List (Int32 × Nat)} {ls : dkL} {st : List dkV} {h : dkH} {y y1 : dkY}
def dk_aft (l : Launch) (D : va_G) (ad : dkI → Nat) (cA : Nat → ClassId) (L : Nat) (xs : Nat → Int32) (H0 : Heap) (b : Nat) (mi pc : Nat) (ls : dkL) (rest : List dkV) (y1 y : dkY) : Prop := match y1.2 with
  | .inl vo => dk_G l D ad cA L xs H0 b mi (pc + 3) ls (vo.toList ++ rest) y1.1 y
  | .inr ex => match dk_hnd mi pc ex with
    | some t => dk_G l D ad cA L xs H0 b mi t.1 (dk_del ls t.2) [] y1.1 y
    | none => dk_han mi = [] ∧ y = y1
theorem dk_argk_ref {c : Nat} {v : dkV} (h : dk_argk (20 + c) v = true) : ∃ a, v = vR a ∧ dk_kind a.1 = c := by
  rcases v with x | a | x
  · simp only [dk_argk, Bool.or_eq_true, beq_iff_eq] at h; omega
  · refine ⟨a, rfl, ?_⟩
    simp only [dk_argk, Bool.or_eq_true, Bool.and_eq_true, beq_iff_eq] at h
    rcases h with ⟨-, (⟨h, -⟩ | ⟨h, -⟩) | ⟨-, h⟩⟩
    · omega
    · omega
    · omega
  · simp [dk_argk] at h
theorem g_call {ix callee n kd mode : Nat} {nest : Bool} {ins : Instr} (hmode : mode < 2) (hins : (ins = .invokevirtual ix ∧ kd = 0) ∨ (ins = .invokespecial ix ∧ kd = 1) ∨ (ins = .invokestatic ix ∧ kd = 2)) (hf : dk_find (dk_code mi) pc = some (ins, len, tg, sw)) (hcall : dk_callT mi ix = some (mode, callee, n, kd, nest))
    (hrl : (st.drop n).length ≤ 4) (hav : dk_argok (dk_sig callee) (st.take n).reverse = true) (gc : dk_G l D ad cA L xs H0 b callee 0 (dk_args 0 (st.take n).reverse) [] h y1) (ha : dk_aft l D ad cA L xs H0 b mi pc ls (st.drop n) y1 y) : dk_G l D ad cA L xs H0 b mi pc ls st h y := by
  obtain ⟨hd, ht⟩ := dk_dec hf
  have hix : ix < 1000 := by
    have := dk_ent hf
    rcases hins with ⟨rfl, -⟩ | ⟨rfl, -⟩ | ⟨rfl, -⟩ <;> simpa [dk_chk2] using this
  obtain rfl : len = 3 := by rcases hins with ⟨rfl, -⟩ | ⟨rfl, -⟩ | ⟨rfl, -⟩ <;> simpa [dk_tok, dk_il] using ht
  have hroom : dk_roomok mi ix = true := by
    have := dk_room hf
    rcases hins with ⟨rfl, -⟩ | ⟨rfl, -⟩ | ⟨rfl, -⟩ <;> exact this
  have hb2 : Nat.blt mode 2 = true := Nat.blt_eq.mpr hmode
  simp only [dk_roomok, hcall, hb2, Bool.and_eq_true, Bool.not_true, Bool.false_or, Nat.ble_eq] at hroom
  obtain ⟨-, hfr, hlo2⟩ := hroom
  have hok := (dk_call_spec hcall hix).2
  have hok2 := hok
  simp only [dk_callok, hb2, Bool.not_true, Bool.false_or, Bool.and_eq_true, Nat.blt_eq, decide_eq_true_eq] at hok2
  obtain ⟨⟨hc104, hsl⟩, hkind⟩ := hok2
  have hvl : (st.take n).reverse.length = n := by rw [dk_argok_len _ _ hav, hsl]
  generalize hvs : (st.take n).reverse = vs at *
  generalize hre : st.drop n = rest at *
  have hst : st.map (dk_enc ad) = (vs.map (dk_enc ad)).reverse ++ rest.map (dk_enc ad) := by
    rw [← hvs, ← hre, ← List.map_reverse, List.reverse_reverse, ← List.map_append, List.take_append_drop]
  intro p e R s m args below meth c H locs cells slots m0 la C hR hS hl hlo hso hc1 hc2 hm
  have hvok : dk_allok h.2.2.2.1 vs := fun v hv => hso v (by
    rw [← hvs] at hv
    exact List.mem_of_mem_take (List.mem_reverse.mp hv))
  have hrok : dk_allok h.2.2.2.1 rest := fun v hv => hso v (by
    rw [← hre] at hv
    exact List.mem_of_mem_drop hv)
  rw [hst]
  intro T hT X
  subst hT
  have hlink : dk_Link l p e R s m args below meth c T locs cells slots pc la (vs.map (dk_enc ad)) (rest.map (dk_enc ad)) (dk_y callee) := by
    rcases hins with ⟨rfl, rfl⟩ | ⟨rfl, rfl⟩ | ⟨rfl, rfl⟩
    · simp only [Bool.or_eq_true, Bool.and_eq_true, beq_iff_eq, decide_eq_true_eq] at hkind
      have hhd : (dk_sig callee).head? = some (20 + dk_oc callee) := by
        rcases hkind with (⟨-, h1⟩ | ⟨⟨⟨⟨⟨h1, -⟩, -⟩, -⟩, -⟩, -⟩) | ⟨⟨⟨h1, -⟩, -⟩, -⟩
        · exact h1
        · cases h1
        · cases h1
      cases hs2 : dk_sig callee with
      | nil => rw [hs2] at hhd; cases hhd
      | cons s0 ss =>
        rw [hs2] at hhd hav
        cases hhd
        cases vs with
        | nil => simp [dk_argok] at hav
        | cons v0 vs' =>
          simp only [dk_argok, Bool.and_eq_true] at hav
          obtain ⟨a0, rfl, hka⟩ := dk_argk_ref hav.1
          have h8 := dk_ocL callee
          have hok0 := dk_notScript (dk_alH hvok) (dk_kind15 hka (by omega))
          have h7 : dk_oc callee < 7 := by
            have hall : ∀ a ∈ dk_sch, dk_kind a.1 ≠ 7 := by decide +kernel
            have := hall a0 (dk_ok_in hok0)
            omega
          obtain ⟨j, hj, hsj⟩ := hok0
          have hin := dk_wsAt (ad := ad) (cA := cA) (L := L) hj hsj
          rw [dk_E_obj hka (by omega)] at hin
          obtain ⟨r', hr', cellV, g1, g2, g3, -⟩ := hR.1 j _ hin
          have hcls := (C.2.2.2.2.2.2.2.2.2.2.1.1 _ _ (dk_clAt h7)).2.1
          exact dk_linkV C X hmode hcall hix (by simpa using hvl) g1 g3 (by rw [g2]; exact hcls) hd
    · simp only [Bool.or_eq_true, Bool.and_eq_true, beq_iff_eq, decide_eq_true_eq] at hkind
      have hhd : (dk_sig callee).head? = some (20 + dk_oc callee) := by
        rcases hkind with (⟨⟨⟨⟨h1, -⟩, -⟩, -⟩, -⟩ | ⟨⟨-, h1⟩, -⟩) | ⟨⟨⟨h1, -⟩, -⟩, -⟩
        · cases h1
        · exact h1
        · cases h1
      cases hs2 : dk_sig callee with
      | nil => rw [hs2] at hhd; cases hhd
      | cons s0 ss =>
        rw [hs2] at hhd hav
        cases hhd
        cases vs with
        | nil => simp [dk_argok] at hav
        | cons v0 vs' =>
          simp only [dk_argok, Bool.and_eq_true] at hav
          obtain ⟨a0, rfl, hka⟩ := dk_argk_ref hav.1
          exact dk_linkI C X hmode hcall hix (by simpa using hvl) hd
    · exact dk_linkS C X hmode hcall hix (by simpa using hvl) hd
  obtain ⟨mk, vm₁, hnamed, X₁, hstep⟩ := hlink
  have hd' : decode c.code pc = .ok (ins, 3) := by rw [C.2.2.1]; exact hd
  obtain ⟨t, hsteps, hfin⟩ := dk_into gc C X₁ hR hS hl.1 hc1 hc2 hc104 hnamed hav hvok hrl hfr hlo2 hd'
  have hfinal : ∃ t2, Steps p.tables e below t t2 ∧ dk_Fin D ad cA L xs H0 below s R m0 y t2 := by
    unfold dk_aft at ha
    cases hy : y1.2 with
    | inl vo =>
      rw [hy] at ha
      exact dk_outR hy ha C X₁ hR.2.2.1 hR.2.2.2.1 hS hl hlo hrok hc1 hc2 hm hd' hfin
    | inr ex =>
      rw [hy] at ha
      simp only at ha
      cases hh : dk_hnd mi pc ex with
      | none =>
        rw [hh] at ha
        obtain ⟨ha1, rfl⟩ := ha
        exact dk_outT hy ha1 C X₁ hR.2.2.1 hR.2.2.2.1 hS hc1 hc2 hm hfin
      | some q =>
        rw [hh] at ha
        exact dk_outC hy hh ha C X₁ hR.2.2.1 hR.2.2.2.1 hS hl hlo hc1 hc2 hm hfin
  obtain ⟨t2, s2, f2⟩ := hfinal
  exact ⟨t2, hstep t2 (fun acts => (hsteps acts).trans s2), f2⟩
end
