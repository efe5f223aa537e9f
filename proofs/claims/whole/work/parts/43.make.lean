section
variable {l : Launch} {D : va_G} {ad : dkI → Nat} {cA : Nat → ClassId} {L : Nat} {xs : Nat → Int32} {H0 : Heap} {b mi pc len tg : Nat} {sw : List (Int32 × Nat)} {ls : dkL} {st : List dkV} {h : dkH} {y : dkY}
theorem g_ldc {ix : Nat} {x : Int32} (hf : dk_find (dk_code mi) pc = some (.ldc ix, len, tg, sw)) (hx : dk_ldc mi ix = some x)
    (k : dk_G l D ad cA L xs H0 b mi (pc + len) ls (vI x :: st) h y) : dk_G l D ad cA L xs H0 b mi pc ls st h y := by
  obtain ⟨hd, ht⟩ := dk_dec hf
  obtain rfl : len = 2 := by simpa [dk_tok, dk_il] using ht
  have hix : ix < 1000 := by simpa [dk_chk2] using dk_ent hf
  intro p e R s m args below meth c H locs cells slots m0 la C hR hS hl hlo hso hc1 hc2 hm
  have ka := k p e R s m args below meth c H locs cells slots m0 la C hR hS hl hlo (dk_alI hso) hc1 hc2 hm
  exact lv_ldc C.1 C.2.2.1 C.2.2.2.2.2.2.2.2.1 (C.2.2.2.2.2.2.2.2.2.1 _ (dk_ldc_spec hx hix) rfl args) hd ka
theorem g_aast {a d : dkI} {i : Int32} (hF : dk_Fix ad H0 b) (hf : dk_find (dk_code mi) pc = some (.aastore, len, tg, sw)) (hk : 53 ≤ dk_kind a.1) (hi : ¬ (i < 0 ∨ dk_len L a ≤ i.toNatClampNeg)) (hrf : dk_rf a i.toNatClampNeg = some d)
    (k : dk_G l D ad cA L xs H0 b mi (pc + len) ls st (h.1, h.2.1, dk_lay h.2.2.1 a i.toNatClampNeg, h.2.2.2) y) : dk_G l D ad cA L xs H0 b mi pc ls (vR d :: vI i :: vR a :: st) h y := by
  obtain ⟨hd, ht⟩ := dk_dec hf
  obtain rfl : len = 1 := by simpa [dk_tok, dk_il] using ht
  intro p e R s m args below meth c H locs cells slots m0 la C hR hS hl hlo hso hc1 hc2 hm
  have hok := dk_notScript (dk_alH (dk_alT (dk_alT hso))) (dk_kind15 rfl (by omega))
  have hdok := dk_notScript (dk_alH hso) (dk_rf_15 hrf)
  obtain ⟨-, hk6, k53, k54, k55⟩ := dk_sch_k a (dk_ok_in hok)
  obtain ⟨j, hj, hsj⟩ := hok
  have hdok' := hdok
  obtain ⟨j2, hj2, hsj2⟩ := hdok
  have hin := dk_wsAt (ad := ad) (cA := cA) (L := L) hj hsj
  rw [dk_E_ref rfl hk] at hin
  obtain ⟨hx, hb, hK⟩ : _ ∧ _ ∧ _ := ⟨C.1, C.2.2.1, C.2.2.2.2.2.2.2.2.2.2.1⟩
  have hlt : i.toNatClampNeg < dk_len L a := Nat.not_le.mp fun q => hi (Or.inr q)
  have h0 : ¬ i < 0 := fun q => hi (Or.inl q)
  have fin : ∀ (t0 ci : Nat), ci < 7 → (dk_tys cA)[t0]? = some (cA (dk_kind a.1), .object (dk_R ci)) → dk_kind d.1 = ci → W p l e R s m args below meth c H locs cells slots (dk_Fin D ad cA L xs H0 below s R m0 y) (F0 m pc la (.ref (ad d) :: .int i :: .ref (ad a) :: st.map (dk_enc ad))) := by
    intro t0 ci h7 ht0 hkd
    have hin2 := dk_wsAt (ad := ad) (cA := cA) (L := L) hj2 hsj2
    rw [dk_E_obj hkd (by omega)] at hin2
    obtain ⟨r', hr', cellV, g1, g2, g3, -⟩ := hR.1 j2 _ hin2
    have hcls := (hK.1 ci _ (dk_clAt h7)).2
    obtain ⟨kA, comp, k1, k2, k3, -⟩ := (hK.2 t0 _ ht0).2
    have hcomp : comp = D.1 ci := Option.some.inj (k3.symm.trans hcls.1)
    subst hcomp
    obtain ⟨kC, hkC, -⟩ := hcls.2
    refine W.aast hx hb (hR.1 j _ hin) (fun q h => by cases h) (fun h => by cases h) k1 k2 rfl hkC ⟨h0, by show _ < (arrV _ _ _).slots.size; rw [arrV_size]; exact hlt⟩ g1 (fun q h => by rw [g3] at h; cases h) (by rw [g2]; exact hkC) (by rw [g2]; exact va_assign hcls) rfl rfl hd fun H1 e1 z oq => ?_
    refine k p e R s m args below meth c H1 _ cells slots m0 la C ?_ (hS.put z oq (dk_adA hF hsj)) hl hlo (dk_alT (dk_alT (dk_alT hso))) hc1 hc2 hm
    refine dk_repPut (h' := (h.1, h.2.1, dk_lay h.2.2.1 a i.toNatClampNeg, h.2.2.2)) hR hj hsj rfl (fun d hd => dk_E_congr rfl (fun g => dk_lay_ne (fun q => hd q.1)) rfl) (fun hg => dk_lay_inr hg) (fun d hd g => ⟨rfl, dk_lay_ne (fun q => hd q.1)⟩) (fun g d2 hg hla hrf2 => ?_) ?_ z oq
    · by_cases hgf : g = i.toNatClampNeg
      · subst hgf
        rw [hrf] at hrf2; cases hrf2; exact hdok'
      · exact hR.2.2.2.2.2.2.1 a g d2 ⟨j, hj, hsj⟩ hg (by rw [← dk_lay_ne (fun q => hgf q.2)]; exact hla) hrf2
    · rw [dk_E_ref rfl hk]
      show H1[ad a]? = some (vp_cell _ _)
      rw [e1, vp_cell_q, vp_cell_q, arrV_store]
      congr 2
      funext q
      by_cases hq : q = i.toNatClampNeg
      · subst hq
        simp only [updV, if_pos]
        unfold dk_rv
        rw [if_pos dk_lay_self, hrf]; rfl
      · simp only [updV, hq, if_false]
        unfold dk_rv
        rw [dk_lay_ne (fun z => hq z.2)]
  have h3 : dk_kind a.1 = 53 ∨ dk_kind a.1 = 54 ∨ dk_kind a.1 = 55 := by omega
  obtain ⟨a1, a2, a3⟩ := a
  rcases h3 with h3 | h3 | h3
  · obtain rfl : a1 = 1 := k53 h3
    cases hrf
    exact fin 3 2 (by decide) rfl rfl
  · obtain rfl : a1 = 6 := k54 h3
    cases hrf
    exact fin 4 4 (by decide) rfl rfl
  · obtain rfl : a1 = 4 := k55 h3
    cases hrf
    exact fin 5 0 (by decide) rfl rfl
/-- one object more -/
theorem dk_wsPush {a : dkI} (ha : dk_sch[h.2.2.2.1]? = some a) : dk_ws ad cA L (h.1, h.2.1, h.2.2.1, h.2.2.2.1 + 1, h.2.2.2.2) = dk_ws ad cA L h ++ [(ad a, dk_E ad cA L h a)] := by
  have hlt := (List.getElem?_eq_some_iff.mp ha).1
  have e : dk_sch.take (h.2.2.2.1 + 1) = dk_sch.take h.2.2.2.1 ++ [a] := by
    rw [List.take_add_one, ha]; rfl
  show (dk_sch.take (h.2.2.2.1 + 1)).map _ = _
  rw [e, List.map_append]
  rfl
theorem dk_okS {made : Nat} {a : dkI} (h : dk_ok made a) : dk_ok (made + 1) a := by
  obtain ⟨k, hk, e⟩ := h
  exact ⟨k, by omega, e⟩
theorem dk_vokS {m1 m2 : Nat} {v : dkV} (hm : m1 ≤ m2) (h : dk_vok m1 v) : dk_vok m2 v := by
  rcases v with x | a | x
  · exact trivial
  · rcases h with ⟨k, hk, e⟩ | h
    · exact Or.inl ⟨k, by omega, e⟩
    · exact Or.inr h
  · exact trivial
theorem dk_lsokS {m1 m2 : Nat} {ls : dkL} (hm : m1 ≤ m2) (h : dk_lsok m1 ls) : dk_lsok m2 ls := fun q hq => dk_vokS hm (h q hq)
theorem dk_allokS {m1 m2 : Nat} {st : List dkV} (hm : m1 ≤ m2) (h : dk_allok m1 st) : dk_allok m2 st := fun q hq => dk_vokS hm (h q hq)
theorem dk_repPush {a : dkI} {g : dkI → Nat → Bool} {H H1 : Heap} {locs : List Loc} (hF : dk_Fix ad H0 b) (hR : dk_Rep D ad cA L xs H0 h H) (hS : va_S (dk_A H0) H0 H locs) (hg : h.2.2.1 = .inr g) (ha : dk_sch[h.2.2.2.1]? = some a)
    (hat : va_at D dk_cl (ad a, dk_E ad cA L h a) H1) (hz : H1.size = H.size + 1) (hoq : ∀ q, q < H.size → H1[q]? = H[q]?) : dk_Rep D ad cA L xs H0 (h.1, h.2.1, h.2.2.1, h.2.2.2.1 + 1, h.2.2.2.2) H1 ∧ va_S (dk_A H0) H0 H1 locs ∧ ad a = H.size := by
  obtain ⟨r1, r2, r3, r4, r5, r6, r7, r8⟩ := hR
  have hlt := (List.getElem?_eq_some_iff.mp ha).1
  rw [dk_schlen] at hlt
  have hsz := r5 ⟨g, hg⟩
  have had : ad a = H.size := by rw [hF.1 _ _ ha, hsz]
  have hk : ∀ (k : Nat) (x : Nat × va_E), (dk_ws ad cA L h)[k]? = some x → H1[x.1]? = H[x.1]? := fun k x hx => hoq x.1 ((r1 k x hx).lt)
  refine ⟨⟨?_, ?_, by show _ + 1 ≤ _; omega, r4, fun _ => by show _ = _ + (_ + 1); omega, ?_, ?_, r8⟩, ⟨by have := hS.1; omega, fun q h1 h2 => (hoq q (by have := hS.1; omega)).trans (hS.2.1 q h1 h2), hS.2.2⟩, had⟩
  · rw [dk_wsPush ha]
    refine (r1.kept hk).app (fun k x hx => ?_)
    have hz : k < 1 := (List.getElem?_eq_some_iff.mp hx).1
    rw [show k = 0 by omega] at hx
    cases hx
    exact hat
  · rw [dk_wsPush ha]
    exact r2.push r1 had (dk_adA hF ha)
  · intro k c hk' hc f
    exact r6 k c (by have : h.2.2.2.1 + 1 ≤ k := hk'; omega) hc f
  · intro c f d hc hf hla hrf
    obtain ⟨k, hkk, hck⟩ := hc
    have hkk : k < h.2.2.2.1 + 1 := hkk
    by_cases he : k = h.2.2.2.1
    · subst he
      have := (r6 h.2.2.2.1 c (Nat.le_refl _) hck f).2
      have hla : dk_laid h.2.2.1 c f = true := hla
      rw [this] at hla; cases hla
    · exact dk_okS (r7 c f d ⟨k, by omega, hck⟩ hf hla hrf)
end
