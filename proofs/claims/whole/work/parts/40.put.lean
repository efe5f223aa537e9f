section
variable {l : Launch} {D : va_G} {ad : dkI → Nat} {cA : Nat → ClassId} {L : Nat} {xs : Nat → Int32} {H0 : Heap} {b mi pc len tg : Nat} {sw : List (Int32 × Nat)} {ls : dkL} {st : List dkV} {h : dkH} {y : dkY}
theorem dk_E_congr {h' : dkH} {c : dkI} (h1 : h'.1 c = h.1 c) (h2 : ∀ f, dk_laid h'.2.2.1 c f = dk_laid h.2.2.1 c f) (h3 : h'.2.1 = h.2.1) : dk_E ad cA L h' c = dk_E ad cA L h c := by
  have e1 : dk_rv ad h' c = dk_rv ad h c := by funext f; unfold dk_rv; rw [h2]
  have e2 : dk_fv ad h' c = dk_fv ad h c := by funext f; unfold dk_fv; rw [e1, h1]
  unfold dk_E
  rw [e1, e2, h1, h3]
theorem dk_up_ne {m : dkM} {a c : dkI} {f : Nat} {x : Int32} (h : c ≠ a) : dk_up m a f x c = m c := by
  funext g
  unfold dk_up
  rw [if_neg (fun q => h q.1)]
theorem dk_up_self {m : dkM} {a : dkI} {f : Nat} {x : Int32} : dk_up m a f x a f = x := by
  unfold dk_up
  rw [if_pos ⟨rfl, rfl⟩]
theorem dk_up_of {m : dkM} {a : dkI} {f g : Nat} {x : Int32} (h : g ≠ f) : dk_up m a f x a g = m a g := by
  unfold dk_up
  rw [if_neg (fun q => h q.2)]
/-- writing a field, whatever way it is linked -/
theorem dk_putW {p : Program} {e : Env} {R : Room} {s : State} {m : MethodId} {args : Array Value} {below : List Frame} {meth : Method} {c : Code} {H : Heap} {locs : List Loc} {cells slots : Nat} {Q : State → Prop} {la : Array Slot} {rest : List Value} {ix ci f ty : Nat} {nest : Bool} {a : dkI} {v : Value}
    (hF : dk_Fix ad H0 b) (C : dk_Ctx D cA L xs H0 b mi p e R s m meth c) (hR : dk_Rep D ad cA L xs H0 h H) (hS0 : va_S (dk_A H0) H0 H locs) (hfl : dk_fld mi ix = some (ci, f, ty, nest)) (hix : ix < 1000) (hpo : dk_putok mi ix = true) (hk : dk_kind a.1 = ci) {j : Nat} (hj : j < h.2.2.2.1) (hsj : dk_sch[j]? = some a) (hd : decode (dk_bytes mi) pc = .ok (.putfield ix, 3))
    (hn : narrow (dk_ty ci f) v = v) (hfit : fits (dk_ty ci f) v = true)
    (kk : ∀ (H1 : Heap) (locs1 : List Loc), H1.size = H.size → (∀ q, q ≠ ad a → H1[q]? = H[q]?) → va_at D dk_cl (ad a, .inr (ci, ((List.range (dk_N ci)).map (dk_fv ad h a)).set f v)) H1 → va_S (dk_A H0) H0 H1 locs1 → W p l e R s m args below meth c H1 locs1 cells slots Q (F0 m (pc + 3) la rest)) :
    W p l e R s m args below meth c H locs cells slots Q (F0 m pc la (v :: .ref (ad a) :: rest)) := by
  obtain ⟨h7, hN, -, hw⟩ := dk_fld_spec hfl hix
  have hin := dk_wsAt (ad := ad) (cA := cA) (L := L) hj hsj
  rw [dk_E_obj hk (by omega)] at hin
  obtain ⟨hx, -, hb, -, -, -, hname, -, hown, hWd, hK, -⟩ := C
  have hts : ∀ w ∈ u_ws (dk_R ci) (dk_T ci) (dk_N ci), w.before args s = true := fun w hw => hWd w (dk_u h7 w hw) (by
    obtain ⟨i, -, rfl⟩ := List.mem_map.mp hw
    show dk_wk (u_lay _ _ _) = true
    unfold u_lay
    split <;> rfl) args
  have hap := va_apart (own := dk_R ci) hts (fun w h => h) (dk_ty ci) (dk_tk h7) (dk_nm h7) hK (dk_clAt h7)
  obtain ⟨r, h1, cell, q1, q2, q3, q4⟩ := hR.1 j _ hin
  have hr : r = (dk_R ci, dk_T ci, dk_N ci) := Option.some.inj (h1.symm.trans (dk_clAt h7))
  subst hr
  obtain ⟨hS, hfc, kC, hkC, hkind⟩ := hK.1 ci _ (dk_clAt h7)
  obtain ⟨cf, kf, fi, fd, hi, hsl⟩ := hS f hN
  have hi2 : s.fieldFound? (dk_R ci) (dk_T ci f).2.1 (dk_T ci f).2.2.1 = some (cf, kf, fi, fd) := by rw [dk_own h7 f hN] at hi; exact hi
  have hst := (u_facts hfc hkC (u_lays hts (fun w h => h) hN) hi).1
  have hlay := hts _ (u_in_lay hN)
  unfold u_lay at hlay
  have hA : dk_A H0 (ad a) := dk_adA hF hsj
  have fin : ∀ H' : Heap, H'[ad a]? = some (cell.setSlot fd.slot v) → H'.size = H.size → (∀ q, q ≠ ad a → H'[q]? = H[q]?) → W p l e R s m args below meth c H' (locs ++ [⟨ad a, fd.slot⟩]) cells slots Q (F0 m (pc + 3) la rest) := by
    intro H' e1 e2 e3
    rw [hsl] at e1 ⊢
    exact kk H' _ e2 e3 ⟨_, dk_clAt h7, t_OB.to (V := updV (vp_V ((List.range (dk_N ci)).map (dk_fv ad h a))) f v) ⟨_, e1, q2, q3, t_set q4 hap hN v⟩ (fun j _ => vp_updV_set (by simpa using hN) v j)⟩ (hS0.put e2 e3 hA)
  simp only [dk_putok, hfl] at hpo
  cases hfin : (dk_T ci f).2.2.2 with
  | false =>
    rw [if_neg (by rw [hfin]; decide)] at hlay
    have h6 := u_store hfc hkC hkind hlay hi (dk_tk h7 f hN) hn hfit
    cases nest
    · exact W.putK hx hb (f := fd) ⟨hown, hWd _ hw.1 hw.2 args, ⟨_, _, _, hi2⟩, hst⟩ (by rw [q2]; exact h6) q1 q3 (by rw [hsl]; exact k2_hasslot (q4 f hN)) rfl rfl hd fin
    · exact va_WputK hx hb (f := fd) hown (hWd _ hw rfl args) hi2 hst (by rw [q2]; exact h6) q1 q3 (by rw [hsl]; exact k2_hasslot (q4 f hN)) rfl rfl hd fin
  | true =>
    have hfin2 : dk_fin ci f = true := hfin
    rw [hfin2] at hpo
    simp only [Bool.not_true, Bool.false_or, Bool.and_eq_true, Bool.not_eq_true', decide_eq_true_eq] at hpo
    obtain ⟨⟨rfl, hini⟩, hoc⟩ := hpo
    rw [if_pos hfin] at hlay
    have hcf : m.cls = cf := by
      obtain ⟨_, _, c', _, _, _, -, -, hf', -, -, -, hown2, -⟩ := Cond.laysFinal_spec hlay
      have e1 : c' = cf := by have := hi.symm.trans hf'; simp at this; exact this.1.symm
      rw [dk_own h7 f hN, ← hoc] at hown2
      rw [← e1]; exact Option.some.inj (hown.symm.trans hown2)
    have h6 := u_fits hfc hkC hkind (Or.inr hlay) hi (dk_tk h7 f hN) hn hfit
    exact W.putFinK hx hb hown (hWd _ hw.1 hw.2 args) hi2 hst hcf (by rw [hname, hini]) (by rw [q2]; exact h6) q1 q3 (by rw [hsl]; exact k2_hasslot (q4 f hN)) rfl rfl hd fin
theorem dk_ft0 {ci f : Nat} (h : dk_ft ci f = 0) : dk_ty ci f = .int := by
  unfold dk_ft at h; split at h <;> first | assumption | omega
theorem dk_ft1 {ci f : Nat} (h : dk_ft ci f = 1) : dk_ty ci f = .boolean := by
  unfold dk_ft at h; split at h <;> first | assumption | omega
theorem g_putI {ix ci f ty : Nat} {nest : Bool} {a : dkI} {x : Int32} (hF : dk_Fix ad H0 b) (hf : dk_find (dk_code mi) pc = some (.putfield ix, len, tg, sw)) (hfl : dk_fld mi ix = some (ci, f, ty, nest)) (hty : ty = 0 ∨ (ty = 1 ∧ (x = 0 ∨ x = 1))) (hk : dk_kind a.1 = ci)
    (k : dk_G l D ad cA L xs H0 b mi (pc + len) ls st (dk_up h.1 a f x, h.2) y) : dk_G l D ad cA L xs H0 b mi pc ls (vI x :: vR a :: st) h y := by
  obtain ⟨hd, ht⟩ := dk_dec hf
  obtain rfl : len = 3 := by simpa [dk_tok, dk_il] using ht
  have hen := dk_ent hf
  simp only [dk_chk2, Bool.and_eq_true, Nat.blt_eq] at hen
  obtain ⟨hix, hpo⟩ := hen
  obtain ⟨h7, hN, hty2, -⟩ := dk_fld_spec hfl hix
  intro p e R s m args below meth c H locs cells slots m0 la C hR hS hl hlo hso hc1 hc2 hm
  have hok := dk_notScript (dk_alH (dk_alT hso)) (dk_kind15 hk (by omega))
  obtain ⟨j, hj, hsj⟩ := hok
  have hft : dk_ft ci f ≠ 2 := by rcases hty with h1 | ⟨h1, -⟩ <;> omega
  refine dk_putW (v := .int x) hF C hR hS hfl hix hpo hk hj hsj hd ?_ ?_ ?_
  · rcases hty with h1 | ⟨h1, hx⟩
    · rw [dk_ft0 (by omega)]; rfl
    · rw [dk_ft1 (by omega)]; rcases hx with rfl | rfl <;> decide
  · rcases hty with h1 | ⟨h1, hx⟩
    · rw [dk_ft0 (by omega)]; rfl
    · rw [dk_ft1 (by omega)]; rcases hx with rfl | rfl <;> decide
  · intro H1 locs1 hz hoq hat hS1
    refine k p e R s m args below meth c H1 locs1 cells slots m0 la C ?_ hS1 hl hlo (dk_alT (dk_alT hso)) hc1 hc2 hm
    refine dk_repPut (h' := (dk_up h.1 a f x, h.2)) hR hj hsj rfl (fun d hd => dk_E_congr (dk_up_ne hd) (fun _ => rfl) rfl) (fun hg => hg) (fun d hd g => ⟨congrFun (dk_up_ne hd) g, rfl⟩) (fun g d hg hla hrf => hR.2.2.2.2.2.2.1 a g d ⟨j, hj, hsj⟩ hg hla hrf) ?_ hz hoq
    rw [dk_E_obj hk (by omega)]
    rw [dk_fs_set (h' := (dk_up h.1 a f x, h.2)) ?_ ?_] at hat
    · exact hat
    · unfold dk_fv; rw [hk, if_neg hft]
      show Value.int (dk_up h.1 a f x a f) = _
      rw [dk_up_self]
    · intro g hg
      unfold dk_fv
      show (if _ then _ else Value.int (dk_up h.1 a f x a g)) = _
      rw [dk_up_of hg]; rfl
theorem dk_lay_self {F : dkF} {a : dkI} {f : Nat} : dk_laid (dk_lay F a f) a f = true := by
  cases F with
  | inl u => rfl
  | inr g => simp [dk_lay, dk_laid]
theorem dk_lay_ne {F : dkF} {a c : dkI} {f g : Nat} (h : ¬ (c = a ∧ g = f)) : dk_laid (dk_lay F a f) c g = dk_laid F c g := by
  cases F with
  | inl u => rfl
  | inr k => simp [dk_lay, dk_laid, h]
theorem dk_lay_inr {F : dkF} {a : dkI} {f : Nat} (h : ∃ g, dk_lay F a f = .inr g) : ∃ g, F = .inr g := by
  cases F with
  | inl u => obtain ⟨g, hg⟩ := h; simp [dk_lay] at hg
  | inr k => exact ⟨k, rfl⟩
def dk_isRef (t : FieldType) : Bool := match t with
  | .object _ => true
  | .array _ => true
  | _ => false
theorem dk_isRef_spec {t : FieldType} (h : dk_isRef t = true) : (∃ n, t = .object n) ∨ ∃ u, t = .array u := by
  cases t <;> simp [dk_isRef] at h ⊢
theorem dk_rt0 : ∀ f, f < dk_N 0 → dk_ft 0 f = 2 → dk_isRef (dk_ty 0 f) = true := by decide +kernel
theorem dk_rt1 : ∀ f, f < dk_N 1 → dk_ft 1 f = 2 → dk_isRef (dk_ty 1 f) = true := by decide +kernel
theorem dk_rt2 : ∀ f, f < dk_N 2 → dk_ft 2 f = 2 → dk_isRef (dk_ty 2 f) = true := by decide +kernel
theorem dk_rt3 : ∀ f, f < dk_N 3 → dk_ft 3 f = 2 → dk_isRef (dk_ty 3 f) = true := by decide +kernel
theorem dk_rt4 : ∀ f, f < dk_N 4 → dk_ft 4 f = 2 → dk_isRef (dk_ty 4 f) = true := by decide +kernel
theorem dk_rt5 : ∀ f, f < dk_N 5 → dk_ft 5 f = 2 → dk_isRef (dk_ty 5 f) = true := by decide +kernel
theorem dk_rt6 : ∀ f, f < dk_N 6 → dk_ft 6 f = 2 → dk_isRef (dk_ty 6 f) = true := by decide +kernel
theorem dk_refty {c f : Nat} (hc : c < 7) (hf : f < dk_N c) (h : dk_ft c f = 2) : (∃ n, dk_ty c f = .object n) ∨ ∃ u, dk_ty c f = .array u := by
  refine dk_isRef_spec ?_
  match c, hc with
  | 0, _ => exact dk_rt0 f hf h
  | 1, _ => exact dk_rt1 f hf h
  | 2, _ => exact dk_rt2 f hf h
  | 3, _ => exact dk_rt3 f hf h
  | 4, _ => exact dk_rt4 f hf h
  | 5, _ => exact dk_rt5 f hf h
  | 6, _ => exact dk_rt6 f hf h
  | n + 7, hc => omega
theorem g_putR {ix ci f : Nat} {nest : Bool} {a d : dkI} (hF : dk_Fix ad H0 b) (hf : dk_find (dk_code mi) pc = some (.putfield ix, len, tg, sw)) (hfl : dk_fld mi ix = some (ci, f, 2, nest)) (hk : dk_kind a.1 = ci) (hrf : dk_rf a f = some d) (hd15 : d.1 ≠ 15)
    (k : dk_G l D ad cA L xs H0 b mi (pc + len) ls st (h.1, h.2.1, dk_lay h.2.2.1 a f, h.2.2.2) y) : dk_G l D ad cA L xs H0 b mi pc ls (vR d :: vR a :: st) h y := by
  obtain ⟨hd, ht⟩ := dk_dec hf
  obtain rfl : len = 3 := by simpa [dk_tok, dk_il] using ht
  have hen := dk_ent hf
  simp only [dk_chk2, Bool.and_eq_true, Nat.blt_eq] at hen
  obtain ⟨hix, hpo⟩ := hen
  obtain ⟨h7, hN, hty2, -⟩ := dk_fld_spec hfl hix
  intro p e R s m args below meth c H locs cells slots m0 la C hR hS hl hlo hso hc1 hc2 hm
  have hok := dk_notScript (dk_alH (dk_alT hso)) (dk_kind15 hk (by omega))
  have hdok := dk_notScript (dk_alH hso) hd15
  obtain ⟨j, hj, hsj⟩ := hok
  refine dk_putW (v := .ref (ad d)) hF C hR hS hfl hix hpo hk hj hsj hd ?_ ?_ ?_
  · rcases dk_refty h7 hN hty2.symm with ⟨t, e⟩ | ⟨t, e⟩ <;> rw [e] <;> rfl
  · rcases dk_refty h7 hN hty2.symm with ⟨t, e⟩ | ⟨t, e⟩ <;> rw [e] <;> rfl
  · intro H1 locs1 hz hoq hat hS1
    refine k p e R s m args below meth c H1 locs1 cells slots m0 la C ?_ hS1 hl hlo (dk_alT (dk_alT hso)) hc1 hc2 hm
    refine dk_repPut (h' := (h.1, h.2.1, dk_lay h.2.2.1 a f, h.2.2.2)) hR hj hsj rfl (fun d hd => dk_E_congr rfl (fun g => dk_lay_ne (fun q => hd q.1)) rfl) (fun hg => dk_lay_inr hg) (fun d hd g => ⟨rfl, dk_lay_ne (fun q => hd q.1)⟩) (fun g d2 hg hla hrf2 => ?_) ?_ hz hoq
    · by_cases hgf : g = f
      · subst hgf
        rw [hrf] at hrf2; cases hrf2; exact hdok
      · exact hR.2.2.2.2.2.2.1 a g d2 ⟨j, hj, hsj⟩ hg (by rw [← dk_lay_ne (fun q => hgf q.2)]; exact hla) hrf2
    · rw [dk_E_obj hk (by omega)]
      rw [dk_fs_set (h' := (h.1, h.2.1, dk_lay h.2.2.1 a f, h.2.2.2)) ?_ ?_] at hat
      · exact hat
      · unfold dk_fv dk_rv; rw [hk, if_pos hty2.symm, if_pos dk_lay_self, hrf]; rfl
      · intro g hg
        have e1 : dk_rv ad (h.1, h.2.1, dk_lay h.2.2.1 a f, h.2.2.2) a g = dk_rv ad h a g := by unfold dk_rv; rw [dk_lay_ne (fun q => hg q.2)]
        unfold dk_fv; rw [e1]
end
