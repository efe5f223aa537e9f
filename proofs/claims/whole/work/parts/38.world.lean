section
variable {D : va_G} {ad : dkI → Nat} {cA : Nat → ClassId} {L : Nat} {xs : Nat → Int32} {H0 : Heap} {b : Nat} {h : dkH}
/-! the world: where a name stands in it -/
theorem dk_wsAt {k : Nat} {a : dkI} (hk : k < h.2.2.2.1) (ha : dk_sch[k]? = some a) : (dk_ws ad cA L h)[k]? = some (ad a, dk_E ad cA L h a) := by
  rw [dk_ws, List.getElem?_map, List.getElem?_take, if_pos hk, ha]; rfl
theorem dk_wsLen (hm : h.2.2.2.1 ≤ 181) : (dk_ws ad cA L h).length = h.2.2.2.1 := by
  rw [dk_ws, List.length_map, List.length_take, dk_schlen]; omega
theorem dk_sch_inj {i j : Nat} {a : dkI} (hi : dk_sch[i]? = some a) (hj : dk_sch[j]? = some a) : i = j := by
  obtain ⟨h1, e1⟩ := List.getElem?_eq_some_iff.mp hi
  obtain ⟨h2, e2⟩ := List.getElem?_eq_some_iff.mp hj
  have f1 := List.Nodup.idxOf_getElem dk_nodup i h1
  have f2 := List.Nodup.idxOf_getElem dk_nodup j h2
  rw [e1] at f1
  rw [e2] at f2
  exact f1.symm.trans f2
/-- one object's cell has changed -/
theorem dk_wsSet {h' : dkH} {k : Nat} {a : dkI} (hk : k < h.2.2.2.1) (ha : dk_sch[k]? = some a) (hm : h'.2.2.2.1 = h.2.2.2.1) (ho : ∀ c, c ≠ a → dk_E ad cA L h' c = dk_E ad cA L h c) : (dk_ws ad cA L h).set k (ad a, dk_E ad cA L h' a) = dk_ws ad cA L h' := by
  apply List.ext_getElem?
  intro j
  by_cases hj : j < h.2.2.2.1
  · cases hc : dk_sch[j]? with
    | none =>
      have e1 : dk_sch.length ≤ j := List.getElem?_eq_none_iff.mp hc
      rw [List.getElem?_eq_none, List.getElem?_eq_none]
      · simp only [dk_ws, List.length_map, List.length_take]; omega
      · simp only [List.length_set, dk_ws, List.length_map, List.length_take]; omega
    | some c =>
      by_cases he : j = k
      · subst he
        rw [List.getElem?_set_self (by
          obtain ⟨h1, -⟩ := List.getElem?_eq_some_iff.mp (dk_wsAt (ad := ad) (cA := cA) (L := L) hk ha)
          exact h1), dk_wsAt (by omega) ha]
      · rw [List.getElem?_set_ne (fun q => he q.symm), dk_wsAt hj hc, dk_wsAt (by omega) hc, ho c (fun q => he (dk_sch_inj hc (q ▸ ha)))]
  · rw [List.getElem?_eq_none, List.getElem?_eq_none]
    · simp only [dk_ws, List.length_map, List.length_take]; omega
    · simp only [List.length_set, dk_ws, List.length_map, List.length_take]; omega
theorem dk_repPut {h' : dkH} {k : Nat} {a : dkI} {H H1 : Heap} (hR : dk_Rep D ad cA L xs H0 h H) (hk : k < h.2.2.2.1) (ha : dk_sch[k]? = some a) (hm : h'.2.2.2 = h.2.2.2) (ho : ∀ c, c ≠ a → dk_E ad cA L h' c = dk_E ad cA L h c)
    (hfl : (∃ g, h'.2.2.1 = .inr g) → ∃ g, h.2.2.1 = .inr g) (hun : ∀ c, c ≠ a → ∀ f, h'.1 c f = h.1 c f ∧ dk_laid h'.2.2.1 c f = dk_laid h.2.2.1 c f) (hrf : ∀ f c, f < dk_nr a → dk_laid h'.2.2.1 a f = true → dk_rf a f = some c → dk_ok h.2.2.2.1 c)
    (hat : va_at D dk_cl (ad a, dk_E ad cA L h' a) H1) (hz : H1.size = H.size) (hoq : ∀ q, q ≠ ad a → H1[q]? = H[q]?) : dk_Rep D ad cA L xs H0 h' H1 := by
  obtain ⟨r1, r2, r3, r4, r5, r6, r7, r8⟩ := hR
  have hm1 : h'.2.2.2.1 = h.2.2.2.1 := by rw [hm]
  have hset := dk_wsSet (ad := ad) (cA := cA) (L := L) (h' := h') hk ha hm1 ho
  have hin := dk_wsAt (ad := ad) (cA := cA) (L := L) hk ha
  have hne : (15, 0, 0) ≠ a := fun e => by
    subst e
    have : ((15, 0, 0) : dkI) ∈ dk_sch := List.mem_of_getElem? ha
    revert this; decide +kernel
  refine ⟨?_, ?_, by rw [hm]; exact r3, by rw [hm]; exact r4, fun hg => by rw [hz, hm1]; exact r5 (hfl hg), ?_, ?_, ?_⟩
  · rw [← hset]; exact r1.set r2 hin hat hoq
  · rw [← hset]; exact r2.set hin
  · intro j c hj hc f
    rw [hm1] at hj
    have hca : c ≠ a := fun e => by
      have := dk_sch_inj hc (e ▸ ha); omega
    obtain ⟨e1, e2⟩ := hun c hca f
    rw [e1, e2]; exact r6 j c hj hc f
  · intro c f d hc hf hl hr
    rw [hm1] at hc ⊢
    by_cases hca : c = a
    · subst hca; exact hrf f d hf hl hr
    · rw [(hun c hca f).2] at hl
      exact r7 c f d hc hf hl hr
  · intro j hj
    rw [(hun _ hne j).1]; exact r8 j hj
theorem dk_adA (hF : dk_Fix ad H0 b) {k : Nat} {a : dkI} (ha : dk_sch[k]? = some a) : dk_A H0 (ad a) := by
  rw [hF.1 k a ha]
  have h1 := (List.getElem?_eq_some_iff.mp ha).1
  rw [dk_schlen] at h1
  exact ⟨by omega, by omega⟩
theorem dk_E_obj {a : dkI} {ci : Nat} (hc : dk_kind a.1 = ci) (hl : ci < 50) : dk_E ad cA L h a = .inr (ci, (List.range (dk_N ci)).map (dk_fv ad h a)) := by
  unfold dk_E; rw [hc, if_pos hl]
theorem dk_E_int {a : dkI} {ci : Nat} (hc : dk_kind a.1 = ci) (h1 : ¬ ci < 50) (h2 : ci < 52) : dk_E ad cA L h a = .inl (cA ci, dk_len L a, .inl (h.1 a)) := by
  unfold dk_E; rw [hc, if_neg h1, if_pos h2]
theorem dk_E_long {a : dkI} (hc : dk_kind a.1 = 52) : dk_E ad cA L h a = .inl (cA 52, dk_len L a, .inr (.inl (fun j => if j = 0 then h.2.1 else 0))) := by
  unfold dk_E; rw [hc, if_neg (by decide), if_neg (by decide), if_pos rfl]
theorem dk_E_ref {a : dkI} {ci : Nat} (hc : dk_kind a.1 = ci) (h1 : 53 ≤ ci) : dk_E ad cA L h a = .inl (cA ci, dk_len L a, .inr (.inr (.inr (.inr (dk_rv ad h a))))) := by
  unfold dk_E; rw [hc, if_neg (by omega), if_neg (by omega), if_neg (by omega)]
theorem dk_fs_at {a : dkI} {n f : Nat} (hf : f < n) : ((List.range n).map (dk_fv ad h a))[f]? = some (dk_fv ad h a f) := by
  rw [List.getElem?_map, List.getElem?_range hf]; rfl
theorem dk_fs_set {h' : dkH} {a : dkI} {n f : Nat} {v : Value} (hv : dk_fv ad h' a f = v) (ho : ∀ g, g ≠ f → dk_fv ad h' a g = dk_fv ad h a g) : ((List.range n).map (dk_fv ad h a)).set f v = (List.range n).map (dk_fv ad h' a) := by
  apply List.ext_getElem?
  intro j
  by_cases hj : j < n
  · by_cases he : j = f
    · subst he
      rw [List.getElem?_set_self (by simpa using hj), dk_fs_at hj, hv]
    · rw [List.getElem?_set_ne (fun q => he q.symm), dk_fs_at hj, dk_fs_at hj, ho j he]
  · rw [List.getElem?_eq_none (by simp; omega), List.getElem?_eq_none (by simp; omega)]
theorem dk_tysAt {i : Nat} (hi : i < 6) : (dk_tys cA)[i]? = some (cA (50 + i), match i with
  | 0 => .int
  | 1 => .boolean
  | 2 => .long
  | 3 => .object (dk_R 2)
  | 4 => .object (dk_R 4)
  | _ => .object (dk_R 0)) := by
  match i, hi with
  | 0, _ => rfl
  | 1, _ => rfl
  | 2, _ => rfl
  | 3, _ => rfl
  | 4, _ => rfl
  | 5, _ => rfl
  | n + 6, hi => omega
end
