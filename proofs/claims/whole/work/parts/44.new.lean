section
variable {l : Launch} {D : va_G} {ad : dkI → Nat} {cA : Nat → ClassId} {L : Nat} {xs : Nat → Int32} {H0 : Heap} {b mi pc len tg : Nat} {sw : List (Int32 × Nat)} {ls : dkL} {st : List dkV} {h : dkH} {y : dkY}
theorem g_new {ix c : Nat} {a : dkI} {g : dkI → Nat → Bool} (hF : dk_Fix ad H0 b) (hf : dk_find (dk_code mi) pc = some (.new ix, len, tg, sw)) (hc : dk_new mi ix = some c) (hg : h.2.2.1 = .inr g) (ha : dk_sch[h.2.2.2.1]? = some a) (hk : dk_kind a.1 = c) (h50 : ¬ 100 ≤ c)
    (k : dk_G l D ad cA L xs H0 b mi (pc + len) ls (vR a :: st) (h.1, h.2.1, h.2.2.1, h.2.2.2.1 + 1, h.2.2.2.2) y) : dk_G l D ad cA L xs H0 b mi pc ls st h y := by
  obtain ⟨hd, ht⟩ := dk_dec hf
  obtain rfl : len = 3 := by simpa [dk_tok, dk_il] using ht
  have hen := dk_ent hf
  simp only [dk_chk2, Bool.and_eq_true, Nat.blt_eq] at hen
  have hix := hen.1
  have hw := dk_cls_spec hc hix
  rw [if_pos (by omega)] at hw
  have h7 : c < 7 := by
    have hm := dk_find_mem _ _ _ hc
    have hall : dk_newT.all (fun q => decide (q.2 < 7) || decide (100 ≤ q.2)) = true := by decide +kernel
    have := List.all_eq_true.mp hall _ hm
    simp only [Bool.or_eq_true, decide_eq_true_eq] at this
    omega
  intro p e R s m args below meth cc H locs cells slots m0 la C hR hS hl hlo hso hc1 hc2 hm
  have hm181 := hR.2.2.1
  have hj600 := hR.2.2.2.1
  have hN := dk_N_le h7
  have C' := C
  obtain ⟨hx, -, hb, -, -, -, -, -, hown, hWd, hK, -⟩ := C
  have hts : ∀ w ∈ u_ws (dk_R c) (dk_T c) (dk_N c), w.before args s = true := fun w hw => hWd w (dk_u h7 w hw) (by
    obtain ⟨i, -, rfl⟩ := List.mem_map.mp hw
    show dk_wk (u_lay _ _ _) = true
    unfold u_lay
    split <;> rfl) args
  have hKn := hK.1 c _ (dk_clAt h7)
  refine W.newcK hx hb hown (hWd _ hw rfl args) (hWd _ (dk_inst h7) rfl args) (hWd _ (dk_ini (by omega : c < 8)) rfl args) rfl hd (by omega) (by omega) hKn.2.1 rfl fun H1 kC hkC e1 z1 o1 => ?_
  have hat : va_at D dk_cl (ad a, dk_E ad cA L h a) H1 := by
    rw [dk_E_obj hk (by omega)]
    have had : ad a = H.size := by rw [hF.1 _ _ ha, hR.2.2.2.2.1 ⟨g, hg⟩]
    rw [had]
    refine ⟨_, dk_clAt h7, (u_born (dk_ty c) hts (fun w h => h) hKn hkC e1 (dk_tk h7)).to (fun f hf => ?_)⟩
    have hf : f < dk_N c := hf
    obtain ⟨u1, u2⟩ := hR.2.2.2.2.2.1 _ a (Nat.le_refl _) ha f
    have e2 : vp_V ((List.range (dk_N c)).map (dk_fv ad h a)) f = dk_fv ad h a f := by
      unfold vp_V
      rw [List.getD_eq_getElem?_getD, dk_fs_at hf]; rfl
    rw [e2]
    unfold dk_fv
    rw [hk]
    by_cases hft : dk_ft c f = 2
    · rw [if_pos hft]
      unfold dk_rv
      rw [if_neg (by rw [u2]; decide)]
      rcases dk_refty h7 hf hft with ⟨n, e3⟩ | ⟨n, e3⟩ <;> rw [e3] <;> rfl
    · rw [if_neg hft, u1]
      unfold dk_ft at hft
      split at hft
      · rename_i e3; rw [e3]; rfl
      · rename_i e3; rw [e3]; rfl
      · exact absurd rfl hft
  obtain ⟨hR1, hS1, had⟩ := dk_repPush hF hR hS hg ha hat z1 o1
  rw [← had]
  refine k p e R s m args below meth cc H1 locs (cells + 1) (slots + dk_N c) m0 la C' hR1 hS1 hl (dk_lsokS (Nat.le_succ _) hlo) (dk_alV (Or.inl ⟨_, Nat.lt_succ_self _, ha⟩) (dk_allokS (Nat.le_succ _) hso)) ?_ ?_ ?_
  · show cells + 1 + 1000 ≤ R.cells + (h.2.2.2.1 + 1 + h.2.2.2.2); omega
  · show slots + dk_N c + 2000000 ≤ R.slots + (5120 * (h.2.2.2.1 + 1) + 6 * h.2.2.2.2); omega
  · show m0 ≤ h.2.2.2.1 + 1; omega
theorem g_newa {ty : ArrayType} {n : Int32} {a : dkI} {g : dkI → Nat → Bool} (hF : dk_Fix ad H0 b) (hf : dk_find (dk_code mi) pc = some (.newarray ty, len, tg, sw)) (hg : h.2.2.1 = .inr g) (ha : dk_sch[h.2.2.2.1]? = some a) (hk : dk_kind a.1 = dk_prim ty) (hn : ¬ n < 0) (hN : n.toNatClampNeg = dk_len L a) (hl0 : dk_prim ty ≠ 52 ∨ h.2.1 = 0)
    (k : dk_G l D ad cA L xs H0 b mi (pc + len) ls (vR a :: st) (h.1, h.2.1, h.2.2.1, h.2.2.2.1 + 1, h.2.2.2.2) y) : dk_G l D ad cA L xs H0 b mi pc ls (vI n :: st) h y := by
  obtain ⟨hd, ht⟩ := dk_dec hf
  obtain rfl : len = 2 := by simpa [dk_tok, dk_il] using ht
  intro p e R s m args below meth cc H locs cells slots m0 la C hR hS hl hlo hso hc1 hc2 hm
  have hm181 := hR.2.2.1
  have hj600 := hR.2.2.2.1
  have hin := List.mem_of_getElem? ha
  have hlen : dk_len L a ≤ 5120 := dk_len_le hin
  have hk56 := (dk_sch_k a hin).2.1
  have C' := C
  obtain ⟨hx, -, hb, -, -, -, -, -, hown, hWd, hK, -⟩ := C
  have had0 : ad a = H.size := by rw [hF.1 _ _ ha, hR.2.2.2.2.1 ⟨g, hg⟩]
  have hu := fun f => hR.2.2.2.2.2.1 _ a (Nat.le_refl _) ha f
  have fin : ∀ (t0 : Nat) (ft : FieldType) (cs : ClassId), newarray.typeOf ty = ft → Cond.arrayClass ft ∈ lw_tbl → (dk_tys cA)[t0]? = some (cs, ft) → (va_RA s cs ft → s.vm.findClass ("[" ++ ft.toString) = some cs) → componentBytes ft ≤ 8 →
      (∀ H1 : Heap, H1[ad a]? = some (arrV cs (dk_len L a) (fun _ => defaultValue ft)) → va_at D dk_cl (ad a, dk_E ad cA L h a) H1) →
      W p l e R s m args below meth cc H locs cells slots (dk_Fin D ad cA L xs H0 below s R m0 y) (F0 m pc la (.int n :: st.map (dk_enc ad))) := by
    intro t0 ft cs e0 hw ht0 hra hcb hat
    subst e0
    refine va_newaK hx hb (hWd _ hw rfl args) rfl hd rfl hn hN (by
      have : dk_len L a * componentBytes (newarray.typeOf ty) ≤ 5120 * 8 := Nat.mul_le_mul hlen hcb
      omega) (by omega) (by omega) rfl fun H1 cX e1 z1 o1 hAr hNm => ?_
    have hcX : cX = cs := Option.some.inj (hNm.symm.trans (hra (hK.2 t0 _ ht0).2))
    subst hcX
    obtain ⟨hR1, hS1, had⟩ := dk_repPush hF hR hS hg ha (hat H1 (by rw [had0]; exact e1)) z1 o1
    rw [← had]
    refine k p e R s m args below meth cc H1 locs (cells + 1) (slots + dk_len L a) m0 la C' hR1 hS1 hl (dk_lsokS (Nat.le_succ _) hlo) (dk_alV (Or.inl ⟨_, Nat.lt_succ_self _, ha⟩) (dk_allokS (Nat.le_succ _) (dk_alT hso))) ?_ ?_ ?_
    · show cells + 1 + 1000 ≤ R.cells + (h.2.2.2.1 + 1 + h.2.2.2.2); omega
    · show slots + dk_len L a + 2000000 ≤ R.slots + (5120 * (h.2.2.2.1 + 1) + 6 * h.2.2.2.2); omega
    · show m0 ≤ h.2.2.2.1 + 1; omega
  cases ty with
  | int =>
    refine fin 0 .int (cA 50) rfl dk_arrI rfl (fun z => z) (by decide) (fun H1 e1 => ?_)
    rw [dk_E_int hk (by decide) (by decide)]
    show H1[ad a]? = some (vp_cell _ _)
    rw [e1, vp_cell_i]
    congr 2
    funext q
    rw [(hu q).1]; rfl
  | boolean =>
    refine fin 1 .boolean (cA 51) rfl dk_arrZ rfl (fun z => z) (by decide) (fun H1 e1 => ?_)
    rw [dk_E_int hk (by decide) (by decide)]
    show H1[ad a]? = some (vp_cell _ _)
    rw [e1, vp_cell_i]
    congr 2
    funext q
    rw [(hu q).1]; rfl
  | long =>
    refine fin 2 .long (cA 52) rfl dk_arrJ rfl (fun z => z) (by decide) (fun H1 e1 => ?_)
    have h0 : h.2.1 = 0 := hl0.resolve_left (fun z => z rfl)
    rw [dk_E_long hk]
    show H1[ad a]? = some (vp_cell _ _)
    rw [e1, vp_cell_l]
    congr 2
    funext q
    rw [h0]
    show Value.long 0 = Value.long (if q = 0 then 0 else 0)
    split <;> rfl
  | _ => exact absurd hk56 (by rw [hk]; decide)
theorem g_anew {ix c : Nat} {n : Int32} {a : dkI} {g : dkI → Nat → Bool} (hF : dk_Fix ad H0 b) (hf : dk_find (dk_code mi) pc = some (.anewarray ix, len, tg, sw)) (hc : dk_anew mi ix = some c) (hg : h.2.2.1 = .inr g) (ha : dk_sch[h.2.2.2.1]? = some a) (hk : dk_kind a.1 = c) (hn : ¬ n < 0) (hN : n.toNatClampNeg = dk_len L a)
    (k : dk_G l D ad cA L xs H0 b mi (pc + len) ls (vR a :: st) (h.1, h.2.1, h.2.2.1, h.2.2.2.1 + 1, h.2.2.2.2) y) : dk_G l D ad cA L xs H0 b mi pc ls (vI n :: st) h y := by
  obtain ⟨hd, ht⟩ := dk_dec hf
  obtain rfl : len = 3 := by simpa [dk_tok, dk_il] using ht
  have hix : ix < 1000 := by simpa [dk_chk2] using dk_ent hf
  intro p e R s m args below meth cc H locs cells slots m0 la C hR hS hl hlo hso hc1 hc2 hm
  have hm181 := hR.2.2.1
  have hj600 := hR.2.2.2.1
  have hin := List.mem_of_getElem? ha
  have hlen : dk_len L a ≤ 5120 := dk_len_le hin
  have C' := C
  obtain ⟨hx, -, hb, -, -, -, -, -, hown, hWd, hK, -⟩ := C
  have had0 : ad a = H.size := by rw [hF.1 _ _ ha, hR.2.2.2.2.1 ⟨g, hg⟩]
  have hu := fun f => hR.2.2.2.2.2.1 _ a (Nat.le_refl _) ha f
  have fin : ∀ (t0 ci : Nat), dk_new mi ix = some ci → ci < 100 → Cond.arrayOver (.object (dk_R ci)) ∈ lw_tbl → (dk_tys cA)[t0]? = some (cA (dk_kind a.1), .object (dk_R ci)) → 53 ≤ dk_kind a.1 →
      W p l e R s m args below meth cc H locs cells slots (dk_Fin D ad cA L xs H0 below s R m0 y) (F0 m pc la (.int n :: st.map (dk_enc ad))) := by
    intro t0 ci hni hci hw ht0 h53
    have hcw := dk_cls_spec hni hix
    rw [if_pos hci] at hcw
    refine W.anew hx hb hown (hWd _ hcw rfl args) (hWd _ hw rfl args) rfl hd rfl hn (by rw [hN]; omega) (by omega) (by rw [hN]; omega) fun cX kX comp f1 f2 f3 f4 => ?_
    obtain ⟨kA, comp2, k1, k2, k3, k4⟩ := (hK.2 t0 _ ht0).2
    have hcX : cX = cA (dk_kind a.1) := Option.some.inj (f1.symm.trans k4)
    subst hcX
    rw [hN]
    generalize hH1 : H.push ({ cls := cA (dk_kind a.1), slots := Array.replicate (dk_len L a) .null, vm := .none } : Cell) = H1
    have z1 : H1.size = H.size + 1 := by rw [← hH1, Array.size_push]
    have e1 : H1[H.size]? = some (arrV (cA (dk_kind a.1)) (dk_len L a) (fun _ => .null)) := by rw [← hH1, Array.getElem?_push_size, ← arrV_new]
    have o1 : ∀ q : Nat, q < H.size → H1[q]? = H[q]? := fun q hq => by rw [← hH1, Array.getElem?_push, if_neg (Nat.ne_of_lt hq)]
    have hat : va_at D dk_cl (ad a, dk_E ad cA L h a) H1 := by
      rw [dk_E_ref rfl h53]
      show H1[ad a]? = some (vp_cell _ _)
      rw [had0, e1, vp_cell_q]
      congr 2
      funext q
      unfold dk_rv
      rw [if_neg (by rw [(hu q).2]; decide)]; rfl
    obtain ⟨hR1, hS1, had⟩ := dk_repPush hF hR hS hg ha hat z1 o1
    rw [← had]
    refine k p e R s m args below meth cc H1 locs (cells + 1) (slots + dk_len L a) m0 la C' hR1 hS1 hl (dk_lsokS (Nat.le_succ _) hlo) (dk_alV (Or.inl ⟨_, Nat.lt_succ_self _, ha⟩) (dk_allokS (Nat.le_succ _) (dk_alT hso))) ?_ ?_ ?_
    · show cells + 1 + 1000 ≤ R.cells + (h.2.2.2.1 + 1 + h.2.2.2.2); omega
    · show slots + dk_len L a + 2000000 ≤ R.slots + (5120 * (h.2.2.2.1 + 1) + 6 * h.2.2.2.2); omega
    · show m0 ≤ h.2.2.2.1 + 1; omega
  unfold dk_anew at hc
  split at hc
  · rename_i e3
    cases hc
    exact fin 3 2 e3 (by decide) dk_arrP (by rw [hk]; rfl) (by omega)
  · rename_i e3
    cases hc
    exact fin 4 4 e3 (by decide) dk_arrW (by rw [hk]; rfl) (by omega)
  · rename_i e3
    cases hc
    exact fin 5 0 e3 (by decide) dk_arrG (by rw [hk]; rfl) (by omega)
  · cases hc
end
