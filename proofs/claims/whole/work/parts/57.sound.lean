section
variable {l : Launch} {D : va_G} {ad : dkI → Nat} {cA : Nat → ClassId} {L : Nat} {xs : Nat → Int32} {H0 : Heap} {b mi pc : Nat} {ls : dkL} {st : List dkV} {h : dkH} {O : Nat → List dkV → dkH → dkR} {y : dkY}
theorem dk_arrV_congr {cI : ClassId} {N : Nat} {f g : Nat → Value} (h : ∀ j, j < N → f j = g j) : arrV cI N f = arrV cI N g := by
  unfold arrV
  have e : (Array.ofFn (n := N) fun j => f j.val) = Array.ofFn (n := N) fun j => g j.val := by
    apply Array.ext
    · simp
    · intro i h1 h2
      simp only [Array.getElem_ofFn]
      exact h i (by simpa using h1)
  rw [e]
/-- all references are laid: they may be forgotten -/
theorem dk_repLaid {g : dkI → Nat → Bool} {H : Heap} (hg : h.2.2.1 = .inr g) (ha : dk_allLaid g h.2.2.2.1 = true) (hR : dk_Rep D ad cA L xs H0 h H) : dk_Rep D ad cA L xs H0 (h.1, h.2.1, .inl (), h.2.2.2) H := by
  simp only [dk_allLaid, Bool.and_eq_true, beq_iff_eq] at ha
  obtain ⟨hmade, hall⟩ := ha
  have hall := List.all_eq_true.mp hall
  have hlaid : ∀ a ∈ dk_sch, ∀ f d, f < dk_nr a → dk_rf a f = some d → g a f = true := by
    intro a ham f d hf hr
    have h1 := List.all_eq_true.mp (hall a ham) f (List.mem_range.mpr hf)
    rw [hr] at h1; exact h1
  have hrv : ∀ a ∈ dk_sch, ∀ f, f < dk_nr a → dk_rv ad (h.1, h.2.1, .inl (), h.2.2.2) a f = dk_rv ad h a f := by
    intro a ham f hf
    unfold dk_rv
    rw [hg]
    cases hr : dk_rf a f with
    | none =>
      show (if true = true then none else none) = (if g a f = true then none else none)
      by_cases hq : g a f = true
      · rw [if_pos hq]; rfl
      · rw [if_neg hq]; rfl
    | some d =>
      have := hlaid a ham f d hf hr
      simp [dk_laid, this]
  obtain ⟨r1, r2, r3, r4, r5, r6, r7, r8⟩ := hR
  refine ⟨?_, ?_, r3, r4, ?_, ?_, ?_, r8⟩
  · intro k q hq
    by_cases hk : k < h.2.2.2.1
    · cases hc : dk_sch[k]? with
      | none => rw [dk_schlen] at hmade; exact absurd (List.getElem?_eq_none_iff.mp hc) (by rw [dk_schlen]; omega)
      | some a =>
        have ham := List.mem_of_getElem? hc
        rw [dk_wsAt (h := (h.1, h.2.1, .inl (), h.2.2.2)) hk hc] at hq
        cases hq
        have h0 := r1 k _ (dk_wsAt hk hc)
        by_cases hk50 : dk_kind a.1 < 50
        · rw [dk_E_obj rfl hk50] at h0 ⊢
          have e1 : (List.range (dk_N (dk_kind a.1))).map (dk_fv ad (h.1, h.2.1, .inl (), h.2.2.2) a) = (List.range (dk_N (dk_kind a.1))).map (dk_fv ad h a) := by
            apply List.map_congr_left
            intro f hf
            unfold dk_fv
            rw [hrv a ham f (by unfold dk_nr; rw [if_pos hk50]; exact List.mem_range.mp hf)]
          rw [e1]; exact h0
        · by_cases hk53 : 53 ≤ dk_kind a.1
          · rw [dk_E_ref rfl hk53] at h0 ⊢
            have h0 : H[ad a]? = some (vp_cell _ _) := h0
            show H[ad a]? = some (vp_cell _ _)
            rw [h0, vp_cell_q, vp_cell_q]
            congr 1
            refine dk_arrV_congr (fun j hj => ?_)
            rw [hrv a ham j]
            unfold dk_nr
            rw [if_neg hk50, if_neg (by omega)]
            obtain ⟨-, hk6, k53, k54, k55⟩ := dk_sch_k a ham
            have : dk_len 0 a = dk_len L a := by
              have h3 : dk_kind a.1 = 53 ∨ dk_kind a.1 = 54 ∨ dk_kind a.1 = 55 := by omega
              unfold dk_len
              rcases h3 with h3 | h3 | h3
              · rw [k53 h3]; rfl
              · rw [k54 h3]; rfl
              · rw [k55 h3]; rfl
            omega
          · by_cases h52 : dk_kind a.1 = 52
            · rw [dk_E_long h52] at h0 ⊢; exact h0
            · rw [dk_E_int rfl hk50 (by omega)] at h0 ⊢; exact h0
    · rw [List.getElem?_eq_none] at hq
      · cases hq
      · simp only [dk_ws, List.length_map, List.length_take]; omega
  · have hadr : ∀ (k : Nat) (q : Nat × va_E), (dk_ws ad cA L (h.1, h.2.1, .inl (), h.2.2.2))[k]? = some q → ∃ q0, (dk_ws ad cA L h)[k]? = some q0 ∧ q0.1 = q.1 := by
      intro k q hq
      by_cases hk : k < h.2.2.2.1
      · cases hc : dk_sch[k]? with
        | none => rw [dk_schlen] at hmade; exact absurd (List.getElem?_eq_none_iff.mp hc) (by rw [dk_schlen]; omega)
        | some a =>
          rw [dk_wsAt (h := (h.1, h.2.1, .inl (), h.2.2.2)) hk hc] at hq
          cases hq
          exact ⟨_, dk_wsAt hk hc, rfl⟩
      · rw [List.getElem?_eq_none] at hq
        · cases hq
        · simp only [dk_ws, List.length_map, List.length_take]; omega
    refine ⟨fun i j x y hi hj hxy => ?_, fun k q hk => ?_⟩
    · obtain ⟨x0, a1, a2⟩ := hadr i x hi
      obtain ⟨y0, b1, b2⟩ := hadr j y hj
      exact r2.1 i j x0 y0 a1 b1 (a2.trans (hxy.trans b2.symm))
    · obtain ⟨q0, a1, a2⟩ := hadr k q hk
      rw [← a2]; exact r2.2 k q0 a1
  · rintro ⟨g', hg'⟩
    cases hg'
  · intro k a hk hc
    have : k < dk_sch.length := (List.getElem?_eq_some_iff.mp hc).1
    have hk : h.2.2.2.1 ≤ k := hk
    omega
  · intro a f d hok hf _ hrf
    have hok : dk_ok h.2.2.2.1 a := hok
    exact r7 a f d hok hf (by rw [hg]; exact hlaid a (dk_ok_in hok) f d hf hrf) hrf
theorem dk_snd (hF : dk_Fix ad H0 b) : ∀ n, dk_IH l D ad cA L xs H0 b O (dk_run L O n)
  | 0 => fun kr mi pc ls st h r _ _ hrun => by simp [dk_run] at hrun
  | n + 1 => fun kr mi pc ls st h r hmi hGO hrun => by
    have IH := dk_snd hF n
    rw [dk_run] at hrun
    cases hfe : dk_find (dk_code mi) pc with
    | none => rw [hfe] at hrun; cases hrun
    | some en =>
      rw [hfe] at hrun
      simp only at hrun
      obtain ⟨ins, len, tg, sw⟩ := en
      split at hrun
      · split at hrun
        · rename_i g hg
          split at hrun
          · rename_i ha
            obtain ⟨y, e1, gk⟩ := IH _ _ _ _ _ _ _ hmi hGO hrun
            refine ⟨y, e1, ?_⟩
            intro p e R s m args below meth c H locs cells slots m0 la C hR hS hl hlo hso hc1 hc2 hm
            exact gk p e R s m args below meth c H locs cells slots m0 la C (dk_repLaid hg ha hR) hS hl hlo hso hc1 hc2 hm
          · cases hrun
        · exact dk_step_snd hF IH hmi hGO hfe hrun
      · exact dk_step_snd hF IH hmi hGO hfe hrun
/-- the machine does what the small machine does -/
theorem dk_sound (hF : dk_Fix ad H0 b) (hO : ∀ j, j < 105 → ∀ (vs : List dkV) (h : dkH) (y : dkY), dk_argok (dk_sig j) vs = true → O j vs h = some y → ∃ n, dk_run L O n some (j, 0, dk_args 0 vs, [], h) = some y) : ∀ j, j < 105 → dk_GO l D ad cA L xs H0 b O j := by
  intro j
  induction j using Nat.strongRecOn with
  | ind j ih =>
    intro hj vs h y hav hy
    obtain ⟨n, hn⟩ := hO j hj vs h y hav hy
    obtain ⟨y', e1, g⟩ := dk_snd hF n some j 0 (dk_args 0 vs) [] h y hj (fun i hi => ih i hi (by omega)) hn
    cases e1
    exact g
end
