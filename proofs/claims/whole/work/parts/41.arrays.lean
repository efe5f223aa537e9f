section
variable {l : Launch} {D : va_G} {ad : dkI → Nat} {cA : Nat → ClassId} {L : Nat} {xs : Nat → Int32} {H0 : Heap} {b mi pc len tg : Nat} {sw : List (Int32 × Nat)} {ls : dkL} {st : List dkV} {h : dkH} {y : dkY}
theorem dk_sch_k : ∀ a ∈ dk_sch, a.1 ≠ 15 ∧ dk_kind a.1 < 56 ∧ (dk_kind a.1 = 53 → a.1 = 1) ∧ (dk_kind a.1 = 54 → a.1 = 6) ∧ (dk_kind a.1 = 55 → a.1 = 4) := by decide +kernel
theorem dk_ok_in {made : Nat} {a : dkI} (h : dk_ok made a) : a ∈ dk_sch := by
  obtain ⟨k, -, hk⟩ := h
  exact List.mem_of_getElem? hk
theorem dk_rf_15 {a d : dkI} {f : Nat} (h : dk_rf a f = some d) : d.1 ≠ 15 := by
  unfold dk_rf at h
  split at h
  all_goals first
    | (cases h; show _ ≠ 15; omega)
    | (split at h <;> first | (cases h; show _ ≠ 15; omega) | cases h)
    | cases h
theorem dk_notA {H0 : Heap} {q : Nat} (h : q < H0.size) : ¬ dk_A H0 q := fun z => by
  have := z.1; omega
theorem g_iald {a : dkI} {i : Int32} (hF : dk_Fix ad H0 b) (hf : dk_find (dk_code mi) pc = some (.iaload, len, tg, sw)) (hk : dk_kind a.1 = 50) (hi : ¬ (i < 0 ∨ dk_len L a ≤ i.toNatClampNeg))
    (k : dk_G l D ad cA L xs H0 b mi (pc + len) ls (vI (h.1 a i.toNatClampNeg) :: st) h y) : dk_G l D ad cA L xs H0 b mi pc ls (vI i :: vR a :: st) h y := by
  obtain ⟨hd, ht⟩ := dk_dec hf
  obtain rfl : len = 1 := by simpa [dk_tok, dk_il] using ht
  intro p e R s m args below meth c H locs cells slots m0 la C hR hS hl hlo hso hc1 hc2 hm
  have ka := k p e R s m args below meth c H locs cells slots m0 la C hR hS hl hlo (dk_alI (dk_alT (dk_alT hso))) hc1 hc2 hm
  obtain ⟨hx, -, hb, -, -, -, -, -, -, -, hK, hX⟩ := C
  rcases dk_alH (dk_alT hso) with ⟨j, hj, hsj⟩ | rfl
  · have hin := dk_wsAt (ad := ad) (cA := cA) (L := L) hj hsj
    rw [dk_E_int hk (by decide) (by decide)] at hin
    exact va_iald hx hb hK hR.1 j 0 hin rfl hi hd ka
  · have hlt : i.toNatClampNeg < L := Nat.not_le.mp fun q => hi (Or.inr q)
    have e1 : dk_enc ad (vR (15, 0, 0)) = .ref b := by show Value.ref (ad (15, 0, 0)) = _; rw [hF.2.1]
    show W p l e R s m args below meth c H locs cells slots _ (F0 m pc la (.int i :: dk_enc ad (vR (15, 0, 0)) :: st.map (dk_enc ad)))
    rw [e1]
    refine va_sld hx hb hX hF.2.2 (dk_notA hF.2.2) hS hi hd ?_
    rw [← hR.2.2.2.2.2.2.2 _ hlt]
    exact ka
theorem g_zald {a : dkI} {i : Int32} (hf : dk_find (dk_code mi) pc = some (.baload, len, tg, sw)) (hk : dk_kind a.1 = 51) (hi : ¬ (i < 0 ∨ dk_len L a ≤ i.toNatClampNeg))
    (k : dk_G l D ad cA L xs H0 b mi (pc + len) ls (vI (h.1 a i.toNatClampNeg) :: st) h y) : dk_G l D ad cA L xs H0 b mi pc ls (vI i :: vR a :: st) h y := by
  obtain ⟨hd, ht⟩ := dk_dec hf
  obtain rfl : len = 1 := by simpa [dk_tok, dk_il] using ht
  intro p e R s m args below meth c H locs cells slots m0 la C hR hS hl hlo hso hc1 hc2 hm
  have ka := k p e R s m args below meth c H locs cells slots m0 la C hR hS hl hlo (dk_alI (dk_alT (dk_alT hso))) hc1 hc2 hm
  obtain ⟨hx, -, hb, -, -, -, -, -, -, -, hK, -⟩ := C
  obtain ⟨j, hj, hsj⟩ := dk_notScript (dk_alH (dk_alT hso)) (dk_kind15 hk (by decide))
  have hin := dk_wsAt (ad := ad) (cA := cA) (L := L) hj hsj
  rw [dk_E_int hk (by decide) (by decide)] at hin
  exact va_zald hx hb hK hR.1 j 1 hin rfl hi hd ka
theorem g_lald {a : dkI} {i : Int32} (hf : dk_find (dk_code mi) pc = some (.laload, len, tg, sw)) (hk : dk_kind a.1 = 52) (hi : i = 0) (hln : dk_len L a = 1)
    (k : dk_G l D ad cA L xs H0 b mi (pc + len) ls (vL h.2.1 :: st) h y) : dk_G l D ad cA L xs H0 b mi pc ls (vI i :: vR a :: st) h y := by
  obtain ⟨hd, ht⟩ := dk_dec hf
  obtain rfl : len = 1 := by simpa [dk_tok, dk_il] using ht
  intro p e R s m args below meth c H locs cells slots m0 la C hR hS hl hlo hso hc1 hc2 hm
  have ka := k p e R s m args below meth c H locs cells slots m0 la C hR hS hl hlo (dk_alL (dk_alT (dk_alT hso))) hc1 hc2 hm
  obtain ⟨hx, -, hb, -, -, -, -, -, -, -, hK, -⟩ := C
  obtain ⟨j, hj, hsj⟩ := dk_notScript (dk_alH (dk_alT hso)) (dk_kind15 hk (by decide))
  have hin := dk_wsAt (ad := ad) (cA := cA) (L := L) hj hsj
  rw [dk_E_long hk] at hin
  subst hi
  exact va_lald (i := 0) hx hb hK hR.1 j 2 hin rfl (by rw [hln]; exact (by decide : ¬ ((0 : Int32) < 0 ∨ 1 ≤ (0 : Int32).toNatClampNeg))) hd ka
theorem g_aald {a d : dkI} {i : Int32} (hf : dk_find (dk_code mi) pc = some (.aaload, len, tg, sw)) (hk : 53 ≤ dk_kind a.1) (hi : ¬ (i < 0 ∨ dk_len L a ≤ i.toNatClampNeg)) (hla : dk_laid h.2.2.1 a i.toNatClampNeg = true) (hrf : dk_rf a i.toNatClampNeg = some d)
    (k : dk_G l D ad cA L xs H0 b mi (pc + len) ls (vR d :: st) h y) : dk_G l D ad cA L xs H0 b mi pc ls (vI i :: vR a :: st) h y := by
  obtain ⟨hd, ht⟩ := dk_dec hf
  obtain rfl : len = 1 := by simpa [dk_tok, dk_il] using ht
  intro p e R s m args below meth c H locs cells slots m0 la C hR hS hl hlo hso hc1 hc2 hm
  have hok := dk_notScript (dk_alH (dk_alT hso)) (dk_kind15 rfl (by omega))
  obtain ⟨-, hk6, k53, k54, k55⟩ := dk_sch_k a (dk_ok_in hok)
  have hlt : i.toNatClampNeg < dk_len L a := Nat.not_le.mp fun q => hi (Or.inr q)
  have hnr : i.toNatClampNeg < dk_nr a := by
    unfold dk_nr
    rw [if_neg (by omega), if_neg (by omega)]
    have : dk_len 0 a = dk_len L a := by
      have h3 : dk_kind a.1 = 53 ∨ dk_kind a.1 = 54 ∨ dk_kind a.1 = 55 := by omega
      unfold dk_len
      rcases h3 with h3 | h3 | h3
      · rw [k53 h3]; rfl
      · rw [k54 h3]; rfl
      · rw [k55 h3]; rfl
    omega
  have hd2 : dk_ok h.2.2.2.1 d := hR.2.2.2.2.2.2.1 a _ d hok hnr hla hrf
  have ka := k p e R s m args below meth c H locs cells slots m0 la C hR hS hl hlo (dk_alV (Or.inl hd2) (dk_alT (dk_alT hso))) hc1 hc2 hm
  obtain ⟨hx, -, hb, -, -, -, -, -, -, -, hK, -⟩ := C
  obtain ⟨j, hj, hsj⟩ := hok
  have hin := dk_wsAt (ad := ad) (cA := cA) (L := L) hj hsj
  rw [dk_E_ref rfl hk] at hin
  have hv : va_rf (dk_rv ad h a i.toNatClampNeg) = .ref (ad d) := by unfold dk_rv; rw [if_pos hla, hrf]; rfl
  have fin : ∀ (t0 : Nat) (C : String), (dk_tys cA)[t0]? = some (cA (dk_kind a.1), .object C) → W p l e R s m args below meth c H locs cells slots (dk_Fin D ad cA L xs H0 below s R m0 y) (F0 m pc la (.int i :: .ref (ad a) :: st.map (dk_enc ad))) := fun t0 C ht0 =>
    va_aldq hx hb hK hR.1 j t0 hin ht0 hi hd (by rw [hv]; exact ka)
  have h3 : dk_kind a.1 = 53 ∨ dk_kind a.1 = 54 ∨ dk_kind a.1 = 55 := by omega
  rcases h3 with h3 | h3 | h3
  · exact fin 3 _ (by rw [h3]; rfl)
  · exact fin 4 _ (by rw [h3]; rfl)
  · exact fin 5 _ (by rw [h3]; rfl)
theorem g_iast {a : dkI} {i x : Int32} (hF : dk_Fix ad H0 b) (hf : dk_find (dk_code mi) pc = some (.iastore, len, tg, sw)) (hk : dk_kind a.1 = 50) (h15 : a.1 ≠ 15) (hi : ¬ (i < 0 ∨ dk_len L a ≤ i.toNatClampNeg))
    (k : dk_G l D ad cA L xs H0 b mi (pc + len) ls st (dk_up h.1 a i.toNatClampNeg x, h.2) y) : dk_G l D ad cA L xs H0 b mi pc ls (vI x :: vI i :: vR a :: st) h y := by
  obtain ⟨hd, ht⟩ := dk_dec hf
  obtain rfl : len = 1 := by simpa [dk_tok, dk_il] using ht
  intro p e R s m args below meth c H locs cells slots m0 la C hR hS hl hlo hso hc1 hc2 hm
  obtain ⟨j, hj, hsj⟩ := dk_notScript (dk_alH (dk_alT (dk_alT hso))) h15
  have hin := dk_wsAt (ad := ad) (cA := cA) (L := L) hj hsj
  rw [dk_E_int hk (by decide) (by decide)] at hin
  obtain ⟨hx, hb, hK⟩ : _ ∧ _ ∧ _ := ⟨C.1, C.2.2.1, C.2.2.2.2.2.2.2.2.2.2.1⟩
  refine W.iast hx hb (hR.1 j _ hin) ((hK.2 0 _ rfl).1 (dk_len L a) (fun q => .int (h.1 a q))) (fun q => by cases q) (by show ¬ (i < 0 ∨ (arrV _ _ _).slots.size ≤ _); rw [arrV_size]; exact hi) rfl rfl hd fun H1 e1 z oq => ?_
  refine k p e R s m args below meth c H1 _ cells slots m0 la C ?_ (hS.put z oq (dk_adA hF hsj)) hl hlo (dk_alT (dk_alT (dk_alT hso))) hc1 hc2 hm
  refine dk_repPut (h' := (dk_up h.1 a i.toNatClampNeg x, h.2)) hR hj hsj rfl (fun d hd => dk_E_congr (dk_up_ne hd) (fun _ => rfl) rfl) (fun hg => hg) (fun d hd g => ⟨congrFun (dk_up_ne hd) g, rfl⟩) (fun g d hg hla hrf => hR.2.2.2.2.2.2.1 a g d ⟨j, hj, hsj⟩ hg hla hrf) ?_ z oq
  rw [dk_E_int hk (by decide) (by decide)]
  show H1[ad a]? = some (vp_cell _ _)
  rw [e1, vp_cell_i, vp_cell_i, arrV_store]
  congr 2
  funext q
  by_cases hq : q = i.toNatClampNeg
  · subst hq
    simp [updV, dk_up_self]
  · simp [updV, hq, dk_up_of hq]
theorem g_zast {a : dkI} {i x : Int32} (hF : dk_Fix ad H0 b) (hf : dk_find (dk_code mi) pc = some (.bastore, len, tg, sw)) (hk : dk_kind a.1 = 51) (hx01 : x = 0 ∨ x = 1) (hi : ¬ (i < 0 ∨ dk_len L a ≤ i.toNatClampNeg))
    (k : dk_G l D ad cA L xs H0 b mi (pc + len) ls st (dk_up h.1 a i.toNatClampNeg x, h.2) y) : dk_G l D ad cA L xs H0 b mi pc ls (vI x :: vI i :: vR a :: st) h y := by
  obtain ⟨hd, ht⟩ := dk_dec hf
  obtain rfl : len = 1 := by simpa [dk_tok, dk_il] using ht
  intro p e R s m args below meth c H locs cells slots m0 la C hR hS hl hlo hso hc1 hc2 hm
  obtain ⟨j, hj, hsj⟩ := dk_notScript (dk_alH (dk_alT (dk_alT hso))) (dk_kind15 hk (by decide))
  have hin := dk_wsAt (ad := ad) (cA := cA) (L := L) hj hsj
  rw [dk_E_int hk (by decide) (by decide)] at hin
  obtain ⟨hx, hb, hK⟩ : _ ∧ _ ∧ _ := ⟨C.1, C.2.2.1, C.2.2.2.2.2.2.2.2.2.2.1⟩
  have hnar : narrow .boolean (.int x) = .int x := by rcases hx01 with rfl | rfl <;> decide
  refine W.zast hx hb (hR.1 j _ hin) ((hK.2 1 _ rfl).1 (dk_len L a) (fun q => .int (h.1 a q))) (fun q => by cases q) (by show ¬ (i < 0 ∨ (arrV _ _ _).slots.size ≤ _); rw [arrV_size]; exact hi) rfl rfl hd fun H1 e1 z oq => ?_
  rw [hnar] at e1
  refine k p e R s m args below meth c H1 _ cells slots m0 la C ?_ (hS.put z oq (dk_adA hF hsj)) hl hlo (dk_alT (dk_alT (dk_alT hso))) hc1 hc2 hm
  refine dk_repPut (h' := (dk_up h.1 a i.toNatClampNeg x, h.2)) hR hj hsj rfl (fun d hd => dk_E_congr (dk_up_ne hd) (fun _ => rfl) rfl) (fun hg => hg) (fun d hd g => ⟨congrFun (dk_up_ne hd) g, rfl⟩) (fun g d hg hla hrf => hR.2.2.2.2.2.2.1 a g d ⟨j, hj, hsj⟩ hg hla hrf) ?_ z oq
  rw [dk_E_int hk (by decide) (by decide)]
  show H1[ad a]? = some (vp_cell _ _)
  rw [e1, vp_cell_i, vp_cell_i, arrV_store]
  congr 2
  funext q
  by_cases hq : q = i.toNatClampNeg
  · subst hq
    simp [updV, dk_up_self]
  · simp [updV, hq, dk_up_of hq]
theorem dk_only52 : ∀ a ∈ dk_sch, dk_kind a.1 = 52 → a = (14, 0, 0) := by decide +kernel
theorem g_last {a : dkI} {i : Int32} {x : Int64} (hF : dk_Fix ad H0 b) (hf : dk_find (dk_code mi) pc = some (.lastore, len, tg, sw)) (hk : dk_kind a.1 = 52) (hi : i = 0)
    (k : dk_G l D ad cA L xs H0 b mi (pc + len) ls st (h.1, x, h.2.2) y) : dk_G l D ad cA L xs H0 b mi pc ls (vL x :: vI i :: vR a :: st) h y := by
  obtain ⟨hd, ht⟩ := dk_dec hf
  obtain rfl : len = 1 := by simpa [dk_tok, dk_il] using ht
  intro p e R s m args below meth c H locs cells slots m0 la C hR hS hl hlo hso hc1 hc2 hm
  have hok := dk_notScript (dk_alH (dk_alT (dk_alT hso))) (dk_kind15 hk (by decide))
  obtain rfl := dk_only52 a (dk_ok_in hok) hk
  obtain ⟨j, hj, hsj⟩ := hok
  have hin := dk_wsAt (ad := ad) (cA := cA) (L := L) hj hsj
  rw [dk_E_long hk] at hin
  obtain ⟨hx, hb, hK⟩ : _ ∧ _ ∧ _ := ⟨C.1, C.2.2.1, C.2.2.2.2.2.2.2.2.2.2.1⟩
  subst hi
  refine W.last hx hb (hR.1 j _ hin) ((hK.2 2 _ rfl).1 (dk_len L (14, 0, 0)) (fun q => .long (if q = 0 then h.2.1 else 0))) (fun q => by cases q) (by show ¬ ((0 : Int32) < 0 ∨ (arrV _ _ _).slots.size ≤ _); rw [arrV_size]; exact (by decide : ¬ ((0 : Int32) < 0 ∨ 1 ≤ (0 : Int32).toNatClampNeg))) rfl rfl hd fun H1 e1 z oq => ?_
  refine k p e R s m args below meth c H1 _ cells slots m0 la C ?_ (hS.put z oq (dk_adA hF hsj)) hl hlo (dk_alT (dk_alT (dk_alT hso))) hc1 hc2 hm
  have hne : ∀ c ∈ dk_sch, c ≠ (14, 0, 0) → dk_kind c.1 ≠ 52 := fun c hc hn q => hn (dk_only52 c hc q)
  obtain ⟨r1, r2, r3, r4, r5, r6, r7, r8⟩ := hR
  have hE : ∀ c, c ≠ (14, 0, 0) → dk_kind c.1 ≠ 52 → dk_E ad cA L (h.1, x, h.2.2) c = dk_E ad cA L h c := by
    intro c _ hc
    have e1 : dk_rv ad (h.1, x, h.2.2) c = dk_rv ad h c := rfl
    have e2 : dk_fv ad (h.1, x, h.2.2) c = dk_fv ad h c := rfl
    unfold dk_E
    rw [e1, e2]
    simp only [hc, if_false]
  have hset : (dk_ws ad cA L h).set j (ad (14, 0, 0), dk_E ad cA L (h.1, x, h.2.2) (14, 0, 0)) = dk_ws ad cA L (h.1, x, h.2.2) := by
    apply List.ext_getElem?
    intro q
    by_cases hq : q < h.2.2.2.1
    · cases hc : dk_sch[q]? with
      | none =>
        have e1 : dk_sch.length ≤ q := List.getElem?_eq_none_iff.mp hc
        rw [List.getElem?_eq_none, List.getElem?_eq_none]
        · simp only [dk_ws, List.length_map, List.length_take]; omega
        · simp only [List.length_set, dk_ws, List.length_map, List.length_take]; omega
      | some c =>
        by_cases he : q = j
        · subst he
          rw [List.getElem?_set_self (List.getElem?_eq_some_iff.mp (dk_wsAt (ad := ad) (cA := cA) (L := L) hj hsj)).1, dk_wsAt (h := (h.1, x, h.2.2)) hj hsj]
        · have hcn : c ≠ (14, 0, 0) := fun e => he (dk_sch_inj hc (e ▸ hsj))
          rw [List.getElem?_set_ne (fun z => he z.symm), dk_wsAt hq hc, dk_wsAt (h := (h.1, x, h.2.2)) hq hc, hE c hcn (hne c (List.mem_of_getElem? hc) hcn)]
    · rw [List.getElem?_eq_none, List.getElem?_eq_none]
      · simp only [dk_ws, List.length_map, List.length_take]; omega
      · simp only [List.length_set, dk_ws, List.length_map, List.length_take]; omega
  have hin' := dk_wsAt (ad := ad) (cA := cA) (L := L) hj hsj
  refine ⟨?_, ?_, r3, r4, fun hg => by rw [z]; exact r5 hg, r6, r7, r8⟩
  · rw [← hset]
    refine r1.set r2 hin' ?_ oq
    rw [dk_E_long hk]
    show H1[ad (14, 0, 0)]? = some (vp_cell _ _)
    rw [e1, vp_cell_l, vp_cell_l, arrV_store]
    congr 2
    funext q
    by_cases hq : q = 0
    · subst hq
      simp [updV]
    · simp [updV, hq]
  · rw [← hset]; exact r2.set hin'
theorem g_alen (hF : dk_Fix ad H0 b) (hf : dk_find (dk_code mi) pc = some (.arraylength, len, tg, sw))  {a : dkI} (ha : a.1 = 15)
    (k : dk_G l D ad cA L xs H0 b mi (pc + len) ls (vI (Int32.ofNat (dk_len L a)) :: st) h y) : dk_G l D ad cA L xs H0 b mi pc ls (vR a :: st) h y := by
  obtain ⟨hd, ht⟩ := dk_dec hf
  obtain rfl : len = 1 := by simpa [dk_tok, dk_il] using ht
  intro p e R s m args below meth c H locs cells slots m0 la C hR hS hl hlo hso hc1 hc2 hm
  have ka := k p e R s m args below meth c H locs cells slots m0 la C hR hS hl hlo (dk_alI (dk_alT hso)) hc1 hc2 hm
  obtain ⟨hx, -, hb, -, -, -, -, -, -, -, hK, hX⟩ := C
  rcases dk_alH hso with hok | rfl
  · exact absurd ha (dk_sch_k a (dk_ok_in hok)).1
  · have e1 : dk_enc ad (vR (15, 0, 0)) = .ref b := by show Value.ref (ad (15, 0, 0)) = _; rw [hF.2.1]
    show W p l e R s m args below meth c H locs cells slots _ (F0 m pc la (dk_enc ad (vR (15, 0, 0)) :: st.map (dk_enc ad)))
    rw [e1]
    exact va_slen hx hb hX hF.2.2 (dk_notA hF.2.2) hS hd ka
end
