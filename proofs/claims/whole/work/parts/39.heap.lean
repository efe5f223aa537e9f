section
variable {l : Launch} {D : va_G} {ad : dkI → Nat} {cA : Nat → ClassId} {L : Nat} {xs : Nat → Int32} {H0 : Heap} {b mi pc len tg : Nat} {sw : List (Int32 × Nat)} {ls : dkL} {st : List dkV} {h : dkH} {y : dkY}
theorem dk_notScript {a : dkI} {made : Nat} (h1 : dk_vok made (vR a)) (h2 : a.1 ≠ 15) : dk_ok made a := by
  rcases h1 with h1 | h1
  · exact h1
  · exact absurd (by rw [h1]) h2
theorem dk_kind15 {a : dkI} {ci : Nat} (h1 : dk_kind a.1 = ci) (h2 : ci ≠ 50) : a.1 ≠ 15 := fun e => h2 (by rw [← h1, e]; rfl)
theorem dk_wd {s : State} (h : dk_Wd s) {w : Cond} (hw : w ∈ lw_tbl) (hk : dk_wk w = true) (args : Array Value) : w.before args s = true := h w hw hk args
/-- reading a field, whatever way it is linked -/
theorem dk_getW {p : Program} {e : Env} {R : Room} {s : State} {m : MethodId} {args : Array Value} {below : List Frame} {meth : Method} {c : Code} {H : Heap} {locs : List Loc} {cells slots : Nat} {Q : State → Prop} {la : Array Slot} {rest : List Value} {ix ci f ty : Nat} {nest : Bool} {a : dkI}
    (C : dk_Ctx D cA L xs H0 b mi p e R s m meth c) (hR : dk_Rep D ad cA L xs H0 h H) (hfl : dk_fld mi ix = some (ci, f, ty, nest)) (hix : ix < 1000) (hk : dk_kind a.1 = ci) (hok : dk_ok h.2.2.2.1 a) (hd : decode (dk_bytes mi) pc = .ok (.getfield ix, 3))
    (k : W p l e R s m args below meth c H locs cells slots Q (F0 m (pc + 3) la (dk_fv ad h a f :: rest))) : W p l e R s m args below meth c H locs cells slots Q (F0 m pc la (.ref (ad a) :: rest)) := by
  obtain ⟨h7, hN, -, hw⟩ := dk_fld_spec hfl hix
  obtain ⟨j, hj, hsj⟩ := hok
  have hin := dk_wsAt (ad := ad) (cA := cA) (L := L) hj hsj
  rw [dk_E_obj hk (by omega)] at hin
  obtain ⟨hx, -, hb, -, -, -, -, -, hown, hWd, hK, -⟩ := C
  have hts : ∀ w ∈ u_ws (dk_R ci) (dk_T ci) (dk_N ci), w.before args s = true := fun w hw => hWd w (dk_u h7 w hw) (by
    obtain ⟨i, -, rfl⟩ := List.mem_map.mp hw
    show dk_wk (u_lay _ _ _) = true
    unfold u_lay
    split <;> rfl) args
  have hsame : ∀ x, s.fieldFound? (dk_T ci f).1 (dk_T ci f).2.1 (dk_T ci f).2.2.1 = some x → s.fieldFound? (dk_R ci) (dk_T ci f).2.1 (dk_T ci f).2.2.1 = some x := fun x hx => by rw [dk_own h7 f hN] at hx; exact hx
  cases nest
  · exact va_get hx hb hts (fun w h => h) hown hK hR.1 j hin (dk_clAt h7) f hN (hWd _ hw.1 hw.2 args) hsame (dk_fs_at hN) hd k
  · exact va_getN hx hb hts (fun w h => h) hown hK hR.1 j hin (dk_clAt h7) f hN (hWd _ hw rfl args) hsame (dk_fs_at hN) hd k
theorem g_getI {ix ci f ty : Nat} {nest : Bool} {a : dkI} (hf : dk_find (dk_code mi) pc = some (.getfield ix, len, tg, sw)) (hfl : dk_fld mi ix = some (ci, f, ty, nest)) (hty : ty ≠ 2) (hk : dk_kind a.1 = ci)
    (k : dk_G l D ad cA L xs H0 b mi (pc + len) ls (vI (h.1 a f) :: st) h y) : dk_G l D ad cA L xs H0 b mi pc ls (vR a :: st) h y := by
  obtain ⟨hd, ht⟩ := dk_dec hf
  obtain rfl : len = 3 := by simpa [dk_tok, dk_il] using ht
  have hix : ix < 1000 := by simpa [dk_chk2] using dk_ent hf
  obtain ⟨h7, hN, hty2, -⟩ := dk_fld_spec hfl hix
  intro p e R s m args below meth c H locs cells slots m0 la C hR hS hl hlo hso hc1 hc2 hm
  have hok := dk_notScript (dk_alH hso) (dk_kind15 hk (by omega))
  have ka := k p e R s m args below meth c H locs cells slots m0 la C hR hS hl hlo (dk_alI (dk_alT hso)) hc1 hc2 hm
  refine dk_getW C hR hfl hix hk hok hd ?_
  rw [show dk_fv ad h a f = .int (h.1 a f) from by unfold dk_fv; rw [hk, if_neg (by rw [← hty2]; exact hty)]]
  exact ka
theorem g_getR {ix ci f : Nat} {nest : Bool} {a d : dkI} (hf : dk_find (dk_code mi) pc = some (.getfield ix, len, tg, sw)) (hfl : dk_fld mi ix = some (ci, f, 2, nest)) (hk : dk_kind a.1 = ci) (hla : dk_laid h.2.2.1 a f = true) (hrf : dk_rf a f = some d)
    (k : dk_G l D ad cA L xs H0 b mi (pc + len) ls (vR d :: st) h y) : dk_G l D ad cA L xs H0 b mi pc ls (vR a :: st) h y := by
  obtain ⟨hd, ht⟩ := dk_dec hf
  obtain rfl : len = 3 := by simpa [dk_tok, dk_il] using ht
  have hix : ix < 1000 := by simpa [dk_chk2] using dk_ent hf
  obtain ⟨h7, hN, hty2, -⟩ := dk_fld_spec hfl hix
  intro p e R s m args below meth c H locs cells slots m0 la C hR hS hl hlo hso hc1 hc2 hm
  have hok := dk_notScript (dk_alH hso) (dk_kind15 hk (by omega))
  have hd2 : dk_ok h.2.2.2.1 d := hR.2.2.2.2.2.2.1 a f d hok (by unfold dk_nr; rw [hk, if_pos (by omega)]; exact hN) hla hrf
  have ka := k p e R s m args below meth c H locs cells slots m0 la C hR hS hl hlo (dk_alV (Or.inl hd2) (dk_alT hso)) hc1 hc2 hm
  refine dk_getW C hR hfl hix hk hok hd ?_
  rw [show dk_fv ad h a f = .ref (ad d) from by unfold dk_fv dk_rv; rw [hk, if_pos hty2.symm, if_pos hla, hrf]; rfl]
  exact ka
end
