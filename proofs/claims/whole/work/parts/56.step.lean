section
variable {l : Launch} {D : va_G} {ad : dkI → Nat} {cA : Nat → ClassId} {L : Nat} {xs : Nat → Int32} {H0 : Heap} {b mi pc : Nat} {ls : dkL} {st : List dkV} {h : dkH} {O : Nat → List dkV → dkH → dkR} {go : (dkY → dkR) → dkS → dkR} {kr : dkY → dkR} {r : dkY}
/-- what is asked of the methods that are not run -/
def dk_GO (l : Launch) (D : va_G) (ad : dkI → Nat) (cA : Nat → ClassId) (L : Nat) (xs : Nat → Int32) (H0 : Heap) (b : Nat) (O : Nat → List dkV → dkH → dkR) (j : Nat) : Prop :=
  ∀ (vs : List dkV) (h : dkH) (y : dkY), dk_argok (dk_sig j) vs = true → O j vs h = some y → dk_G l D ad cA L xs H0 b j 0 (dk_args 0 vs) [] h y
def dk_IH (l : Launch) (D : va_G) (ad : dkI → Nat) (cA : Nat → ClassId) (L : Nat) (xs : Nat → Int32) (H0 : Heap) (b : Nat) (O : Nat → List dkV → dkH → dkR) (go : (dkY → dkR) → dkS → dkR) : Prop :=
  ∀ (kr : dkY → dkR) (mi pc : Nat) (ls : dkL) (st : List dkV) (h : dkH) (r : dkY), mi < 105 → (∀ j, j < mi → dk_GO l D ad cA L xs H0 b O j) → go kr (mi, pc, ls, st, h) = some r → ∃ y, kr y = some r ∧ dk_G l D ad cA L xs H0 b mi pc ls st h y
theorem dk_after_snd (IH : dk_IH l D ad cA L xs H0 b O go) (hmi : mi < 105) (hGO : ∀ j, j < mi → dk_GO l D ad cA L xs H0 b O j) {rest : List dkV} {y1 : dkY} (hrun : dk_after go kr mi pc ls rest y1 = some r) : ∃ y, kr y = some r ∧ dk_aft l D ad cA L xs H0 b mi pc ls rest y1 y := by
  obtain ⟨h1, o⟩ := y1
  unfold dk_after at hrun
  unfold dk_aft
  rcases o with (_ | v) | ex
  · exact IH _ _ _ _ _ _ _ hmi hGO hrun
  · exact IH _ _ _ _ _ _ _ hmi hGO hrun
  · simp only at hrun ⊢
    cases hh : dk_hnd mi pc ex with
    | none =>
      rw [hh] at hrun
      simp only at hrun
      split at hrun
      · rename_i hn
        exact ⟨_, hrun, hn, rfl⟩
      · cases hrun
    | some t =>
      rw [hh] at hrun
      exact IH _ _ _ _ _ _ _ hmi hGO hrun
theorem dk_call_snd (IH : dk_IH l D ad cA L xs H0 b O go) (hmi : mi < 105) (hGO : ∀ j, j < mi → dk_GO l D ad cA L xs H0 b O j) {ix kd0 len tg : Nat} {sw : List (Int32 × Nat)} {ins : Instr} {q : Nat × Nat × Nat × Nat × Bool} (hins : (ins = .invokevirtual ix ∧ kd0 = 0) ∨ (ins = .invokespecial ix ∧ kd0 = 1) ∨ (ins = .invokestatic ix ∧ kd0 = 2))
    (hf : dk_find (dk_code mi) pc = some (ins, len, tg, sw)) (hcall : dk_callT mi ix = some q) (hrun : dk_call O go kr mi pc ls st h kd0 q = some r) : ∃ y, kr y = some r ∧ dk_G l D ad cA L xs H0 b mi pc ls st h y := by
  unfold dk_call at hrun
  split at hrun
  · rename_i callee n kd nest
    split at hrun
    · rename_i hc
      obtain ⟨hlt, rfl, hrl, hav⟩ := hc
      obtain ⟨y1, e1, gc⟩ := IH _ _ _ _ _ _ _ (by omega) (fun j hj => hGO j (by omega)) hrun
      obtain ⟨y, e2, ha⟩ := dk_after_snd IH hmi hGO e1
      exact ⟨y, e2, g_call (by omega) hins hf hcall hrl hav gc ha⟩
    · cases hrun
  · rename_i callee n kd nest
    split at hrun
    · rename_i hc
      obtain ⟨hlt, rfl, hrl, hav⟩ := hc
      split at hrun
      · rename_i y1 hO
        obtain ⟨y, e2, ha⟩ := dk_after_snd IH hmi hGO hrun
        exact ⟨y, e2, g_call (by omega) hins hf hcall hrl hav (hGO callee hlt _ _ _ hav hO) ha⟩
      · cases hrun
    · cases hrun
  · rename_i callee n kd nest
    split at hrun
    · rename_i a rest
      split at hrun
      · rename_i hc
        obtain ⟨rfl, h1, hrl⟩ := hc
        subst h1
        obtain ⟨y, e2, g⟩ := IH _ _ _ _ _ _ _ hmi hGO hrun
        have : ins = .invokespecial ix := by
          rcases hins with ⟨-, z⟩ | ⟨z, -⟩ | ⟨-, z⟩
          · cases z
          · exact z
          · cases z
        subst this
        exact ⟨y, e2, g_obj hf hcall hrl g⟩
      · cases hrun
    · cases hrun
  · rename_i callee n kd nest
    split at hrun
    · rename_i z x rest
      split at hrun
      · rename_i hc
        obtain ⟨rfl, h1, hrl⟩ := hc
        subst h1
        have : ins = .invokestatic ix := by
          rcases hins with ⟨-, z⟩ | ⟨-, z⟩ | ⟨z, -⟩
          · cases z
          · cases z
          · exact z
        subst this
        split at hrun
        · rename_i hlt
          obtain ⟨y, e2, g⟩ := IH _ _ _ _ _ _ _ hmi hGO hrun
          exact ⟨y, e2, g_max hf hcall hrl (by rw [if_pos hlt]; exact g)⟩
        · rename_i hlt
          obtain ⟨y, e2, g⟩ := IH _ _ _ _ _ _ _ hmi hGO hrun
          exact ⟨y, e2, g_max hf hcall hrl (by rw [if_neg hlt]; exact g)⟩
      · cases hrun
    · cases hrun
  · rename_i callee n kd nest
    split at hrun
    · rename_i z x rest
      split at hrun
      · rename_i hc
        obtain ⟨rfl, h1, hrl⟩ := hc
        subst h1
        have : ins = .invokestatic ix := by
          rcases hins with ⟨-, z⟩ | ⟨-, z⟩ | ⟨z, -⟩
          · cases z
          · cases z
          · exact z
        subst this
        split at hrun
        · rename_i hlt
          obtain ⟨y, e2, g⟩ := IH _ _ _ _ _ _ _ hmi hGO hrun
          exact ⟨y, e2, g_min hf hcall hrl (by rw [if_pos hlt]; exact g)⟩
        · rename_i hlt
          obtain ⟨y, e2, g⟩ := IH _ _ _ _ _ _ _ hmi hGO hrun
          exact ⟨y, e2, g_min hf hcall hrl (by rw [if_neg hlt]; exact g)⟩
      · cases hrun
    · cases hrun
  · cases hrun
theorem dk_len52 {a : dkI} (h : dk_kind a.1 = 52) : dk_len L a = 1 := by
  obtain ⟨a1, a2, a3⟩ := a
  have : a1 = 14 := by
    unfold dk_kind at h
    split at h <;> first | rfl | assumption | (rename_i q; exact q) | (exfalso; revert h; decide)
  subst this
  rfl
set_option maxHeartbeats 4000000 in
theorem dk_step_snd (hF : dk_Fix ad H0 b) (IH : dk_IH l D ad cA L xs H0 b O go) (hmi : mi < 105) (hGO : ∀ j, j < mi → dk_GO l D ad cA L xs H0 b O j) {ins : Instr} {len tg : Nat} {sw : List (Int32 × Nat)} (hf : dk_find (dk_code mi) pc = some (ins, len, tg, sw)) (hrun : dk_step L O go kr mi pc (ins, len, tg, sw) ls st h = some r) : ∃ y, kr y = some r ∧ dk_G l D ad cA L xs H0 b mi pc ls st h y := by
  cases ins
  case iconst v =>
    obtain ⟨y, e2, g⟩ := IH _ _ _ _ _ _ _ hmi hGO hrun
    exact ⟨y, e2, g_iconst hf g⟩
  case bipush v =>
    obtain ⟨y, e2, g⟩ := IH _ _ _ _ _ _ _ hmi hGO hrun
    exact ⟨y, e2, g_bipush hf g⟩
  case sipush v =>
    obtain ⟨y, e2, g⟩ := IH _ _ _ _ _ _ _ hmi hGO hrun
    exact ⟨y, e2, g_sipush hf g⟩
  case lconst v =>
    obtain ⟨y, e2, g⟩ := IH _ _ _ _ _ _ _ hmi hGO hrun
    exact ⟨y, e2, g_lconst hf g⟩
  case goto o =>
    obtain ⟨y, e2, g⟩ := IH _ _ _ _ _ _ _ hmi hGO hrun
    exact ⟨y, e2, g_goto hf g⟩
  case iload_n k =>
    simp only [dk_step] at hrun
    split at hrun
    · rename_i x hg
      obtain ⟨y, e2, g⟩ := IH _ _ _ _ _ _ _ hmi hGO hrun
      exact ⟨y, e2, g_iload_n hf hg g⟩
    · cases hrun
  case iload k =>
    simp only [dk_step] at hrun
    split at hrun
    · rename_i x hg
      obtain ⟨y, e2, g⟩ := IH _ _ _ _ _ _ _ hmi hGO hrun
      exact ⟨y, e2, g_iload hf hg g⟩
    · cases hrun
  case aload_n k =>
    simp only [dk_step] at hrun
    split at hrun
    · rename_i x hg
      obtain ⟨y, e2, g⟩ := IH _ _ _ _ _ _ _ hmi hGO hrun
      exact ⟨y, e2, g_aload_n hf hg g⟩
    · cases hrun
  case aload k =>
    simp only [dk_step] at hrun
    split at hrun
    · rename_i x hg
      obtain ⟨y, e2, g⟩ := IH _ _ _ _ _ _ _ hmi hGO hrun
      exact ⟨y, e2, g_aload hf hg g⟩
    · cases hrun
  case ldc ix =>
    simp only [dk_step] at hrun
    split at hrun
    · rename_i x hg
      obtain ⟨y, e2, g⟩ := IH _ _ _ _ _ _ _ hmi hGO hrun
      exact ⟨y, e2, g_ldc hf hg g⟩
    · cases hrun
  case istore_n k =>
    simp only [dk_step] at hrun
    split at hrun
    · split at hrun
      · rename_i hn
        obtain ⟨y, e2, g⟩ := IH _ _ _ _ _ _ _ hmi hGO hrun
        exact ⟨y, e2, g_istore_n hf hn g⟩
      · cases hrun
    · cases hrun
  case istore k =>
    simp only [dk_step] at hrun
    split at hrun
    · split at hrun
      · rename_i hn
        obtain ⟨y, e2, g⟩ := IH _ _ _ _ _ _ _ hmi hGO hrun
        exact ⟨y, e2, g_istore hf hn g⟩
      · cases hrun
    · cases hrun
  case astore_n k =>
    simp only [dk_step] at hrun
    split at hrun
    · split at hrun
      · rename_i hn
        obtain ⟨y, e2, g⟩ := IH _ _ _ _ _ _ _ hmi hGO hrun
        exact ⟨y, e2, g_astore_n hf hn g⟩
      · cases hrun
    · cases hrun
  case astore k =>
    simp only [dk_step] at hrun
    split at hrun
    · split at hrun
      · rename_i hn
        obtain ⟨y, e2, g⟩ := IH _ _ _ _ _ _ _ hmi hGO hrun
        exact ⟨y, e2, g_astore hf hn g⟩
      · cases hrun
    · cases hrun
  case iinc k n =>
    simp only [dk_step] at hrun
    split at hrun
    · rename_i x hg
      split at hrun
      · rename_i hn
        obtain ⟨y, e2, g⟩ := IH _ _ _ _ _ _ _ hmi hGO hrun
        exact ⟨y, e2, g_iinc hf hg hn g⟩
      · cases hrun
    · cases hrun
  case iadd =>
    simp only [dk_step] at hrun
    split at hrun
    · obtain ⟨y, e2, g⟩ := IH _ _ _ _ _ _ _ hmi hGO hrun
      exact ⟨y, e2, g_iadd hf g⟩
    · cases hrun
  case isub =>
    simp only [dk_step] at hrun
    split at hrun
    · obtain ⟨y, e2, g⟩ := IH _ _ _ _ _ _ _ hmi hGO hrun
      exact ⟨y, e2, g_isub hf g⟩
    · cases hrun
  case imul =>
    simp only [dk_step] at hrun
    split at hrun
    · obtain ⟨y, e2, g⟩ := IH _ _ _ _ _ _ _ hmi hGO hrun
      exact ⟨y, e2, g_imul hf g⟩
    · cases hrun
  case iand =>
    simp only [dk_step] at hrun
    split at hrun
    · obtain ⟨y, e2, g⟩ := IH _ _ _ _ _ _ _ hmi hGO hrun
      exact ⟨y, e2, g_iand hf g⟩
    · cases hrun
  case i2l =>
    simp only [dk_step] at hrun
    split at hrun
    · obtain ⟨y, e2, g⟩ := IH _ _ _ _ _ _ _ hmi hGO hrun
      exact ⟨y, e2, g_i2l hf g⟩
    · cases hrun
  case lcmp =>
    simp only [dk_step] at hrun
    split at hrun
    · obtain ⟨y, e2, g⟩ := IH _ _ _ _ _ _ _ hmi hGO hrun
      exact ⟨y, e2, g_lcmp hf g⟩
    · cases hrun
  case dup2 =>
    simp only [dk_step] at hrun
    split at hrun
    · obtain ⟨y, e2, g⟩ := IH _ _ _ _ _ _ _ hmi hGO hrun
      exact ⟨y, e2, g_dup2 hf g⟩
    · cases hrun
  case idiv =>
    simp only [dk_step] at hrun
    split at hrun
    · split at hrun
      · cases hrun
      · rename_i hz
        obtain ⟨y, e2, g⟩ := IH _ _ _ _ _ _ _ hmi hGO hrun
        exact ⟨y, e2, g_idiv hf hz g⟩
    · cases hrun
  case irem =>
    simp only [dk_step] at hrun
    split at hrun
    · split at hrun
      · cases hrun
      · rename_i hz
        obtain ⟨y, e2, g⟩ := IH _ _ _ _ _ _ _ hmi hGO hrun
        exact ⟨y, e2, g_irem hf hz g⟩
    · cases hrun
  case dup =>
    simp only [dk_step] at hrun
    split at hrun
    · obtain ⟨y, e2, g⟩ := IH _ _ _ _ _ _ _ hmi hGO hrun
      exact ⟨y, e2, g_dupI hf g⟩
    · obtain ⟨y, e2, g⟩ := IH _ _ _ _ _ _ _ hmi hGO hrun
      exact ⟨y, e2, g_dupR hf g⟩
    · cases hrun
  case ifCond c o =>
    simp only [dk_step] at hrun
    split at hrun
    · rcases dk_cond_some hrun with ⟨hh, hrun⟩ | ⟨hh, hrun⟩
      · obtain ⟨y, e2, g⟩ := IH _ _ _ _ _ _ _ hmi hGO hrun
        exact ⟨y, e2, g_ifc hf (fun _ => g) (fun z => absurd hh z)⟩
      · obtain ⟨y, e2, g⟩ := IH _ _ _ _ _ _ _ hmi hGO hrun
        exact ⟨y, e2, g_ifc hf (fun z => absurd z hh) (fun _ => g)⟩
    · cases hrun
  case if_icmp c o =>
    simp only [dk_step] at hrun
    split at hrun
    · rcases dk_cond_some hrun with ⟨hh, hrun⟩ | ⟨hh, hrun⟩
      · obtain ⟨y, e2, g⟩ := IH _ _ _ _ _ _ _ hmi hGO hrun
        exact ⟨y, e2, g_icmp hf (fun _ => g) (fun z => absurd hh z)⟩
      · obtain ⟨y, e2, g⟩ := IH _ _ _ _ _ _ _ hmi hGO hrun
        exact ⟨y, e2, g_icmp hf (fun z => absurd z hh) (fun _ => g)⟩
    · cases hrun
  case tableswitch d lo hi offs =>
    simp only [dk_step] at hrun
    split at hrun
    · rw [dk_sw_eq] at hrun
      obtain ⟨y, e2, g⟩ := IH _ _ _ _ _ _ _ hmi hGO hrun
      exact ⟨y, e2, g_tsw hf g⟩
    · cases hrun
  case getfield ix =>
    simp only [dk_step] at hrun
    split at hrun
    · rename_i ci f nest a rest hfl
      split at hrun
      · rename_i hc
        split at hrun
        · rename_i d hrf
          obtain ⟨y, e2, g⟩ := IH _ _ _ _ _ _ _ hmi hGO hrun
          exact ⟨y, e2, g_getR hf hfl hc.1 hc.2 hrf g⟩
        · cases hrun
      · cases hrun
    · rename_i ci f nest a rest hfl
      split at hrun
      · rename_i hc
        obtain ⟨y, e2, g⟩ := IH _ _ _ _ _ _ _ hmi hGO hrun
        exact ⟨y, e2, g_getI hf hfl (by decide) hc g⟩
      · cases hrun
    · rename_i ci f nest a rest hfl
      split at hrun
      · rename_i hc
        obtain ⟨y, e2, g⟩ := IH _ _ _ _ _ _ _ hmi hGO hrun
        exact ⟨y, e2, g_getI hf hfl (by decide) hc g⟩
      · cases hrun
    · cases hrun
  case putfield ix =>
    simp only [dk_step] at hrun
    split at hrun
    · rename_i ci f nest d a rest hfl
      split at hrun
      · rename_i hc
        obtain ⟨y, e2, g⟩ := IH _ _ _ _ _ _ _ hmi hGO hrun
        exact ⟨y, e2, g_putR hF hf hfl hc.1 hc.2 (dk_rf_15 hc.2) g⟩
      · cases hrun
    · rename_i ci f nest x a rest hfl
      split at hrun
      · rename_i hc
        obtain ⟨y, e2, g⟩ := IH _ _ _ _ _ _ _ hmi hGO hrun
        exact ⟨y, e2, g_putI hF hf hfl (Or.inl rfl) hc g⟩
      · cases hrun
    · rename_i ci f nest x a rest hfl
      split at hrun
      · rename_i hc
        obtain ⟨y, e2, g⟩ := IH _ _ _ _ _ _ _ hmi hGO hrun
        exact ⟨y, e2, g_putI hF hf hfl (Or.inr ⟨rfl, hc.2⟩) hc.1 g⟩
      · cases hrun
    · cases hrun
  case iaload =>
    simp only [dk_step] at hrun
    split at hrun
    · split at hrun
      · rename_i hc
        obtain ⟨y, e2, g⟩ := IH _ _ _ _ _ _ _ hmi hGO hrun
        exact ⟨y, e2, g_iald hF hf hc.1 hc.2 g⟩
      · cases hrun
    · cases hrun
  case baload =>
    simp only [dk_step] at hrun
    split at hrun
    · split at hrun
      · rename_i hc
        obtain ⟨y, e2, g⟩ := IH _ _ _ _ _ _ _ hmi hGO hrun
        exact ⟨y, e2, g_zald hf hc.1 hc.2 g⟩
      · cases hrun
    · cases hrun
  case laload =>
    simp only [dk_step] at hrun
    split at hrun
    · rename_i i a rest
      split at hrun
      · rename_i hc
        obtain ⟨y, e2, g⟩ := IH _ _ _ _ _ _ _ hmi hGO hrun
        exact ⟨y, e2, g_lald hf hc.1 hc.2 (dk_len52 hc.1) g⟩
      · cases hrun
    · cases hrun
  case aaload =>
    simp only [dk_step] at hrun
    split at hrun
    · split at hrun
      · rename_i hc
        split at hrun
        · rename_i d hrf
          obtain ⟨y, e2, g⟩ := IH _ _ _ _ _ _ _ hmi hGO hrun
          exact ⟨y, e2, g_aald hf hc.1 hc.2.1 hc.2.2 hrf g⟩
        · cases hrun
      · cases hrun
    · cases hrun
  case iastore =>
    simp only [dk_step] at hrun
    split at hrun
    · split at hrun
      · rename_i hc
        obtain ⟨y, e2, g⟩ := IH _ _ _ _ _ _ _ hmi hGO hrun
        exact ⟨y, e2, g_iast hF hf hc.1 hc.2.1 hc.2.2 g⟩
      · cases hrun
    · cases hrun
  case bastore =>
    simp only [dk_step] at hrun
    split at hrun
    · split at hrun
      · rename_i hc
        obtain ⟨y, e2, g⟩ := IH _ _ _ _ _ _ _ hmi hGO hrun
        exact ⟨y, e2, g_zast hF hf hc.1 hc.2.1 hc.2.2 g⟩
      · cases hrun
    · cases hrun
  case lastore =>
    simp only [dk_step] at hrun
    split at hrun
    · split at hrun
      · rename_i hc
        obtain ⟨y, e2, g⟩ := IH _ _ _ _ _ _ _ hmi hGO hrun
        exact ⟨y, e2, g_last hF hf hc.1 hc.2 g⟩
      · cases hrun
    · cases hrun
  case aastore =>
    simp only [dk_step] at hrun
    split at hrun
    · split at hrun
      · rename_i hc
        obtain ⟨y, e2, g⟩ := IH _ _ _ _ _ _ _ hmi hGO hrun
        exact ⟨y, e2, g_aast hF hf hc.1 hc.2.1 hc.2.2 g⟩
      · cases hrun
    · cases hrun
  case arraylength =>
    simp only [dk_step] at hrun
    split at hrun
    · split at hrun
      · rename_i hc
        obtain ⟨y, e2, g⟩ := IH _ _ _ _ _ _ _ hmi hGO hrun
        exact ⟨y, e2, g_alen hF hf hc g⟩
      · cases hrun
    · cases hrun
  case new ix =>
    simp only [dk_step] at hrun
    split at hrun
    · rename_i c hc
      split at hrun
      · rename_i h100
        split at hrun
        · rename_i u hu
          split at hrun
          · rename_i hj
            exact ⟨_, hrun, g_throw hmi hf hc h100 hu hj.1 hj.2⟩
          · cases hrun
        · cases hrun
      · rename_i h100
        split at hrun
        · rename_i g0 a hg ha
          split at hrun
          · rename_i hk
            obtain ⟨y, e2, g⟩ := IH _ _ _ _ _ _ _ hmi hGO hrun
            exact ⟨y, e2, g_new hF hf hc hg ha hk.1 h100 g⟩
          · cases hrun
        · cases hrun
    · cases hrun
  case newarray ty =>
    simp only [dk_step] at hrun
    split at hrun
    · split at hrun
      · rename_i g0 a hg ha
        split at hrun
        · rename_i hk
          obtain ⟨y, e2, g⟩ := IH _ _ _ _ _ _ _ hmi hGO hrun
          exact ⟨y, e2, g_newa hF hf hg ha hk.1 hk.2.2.1 hk.2.2.2.1 hk.2.2.2.2 g⟩
        · cases hrun
      · cases hrun
    · cases hrun
  case anewarray ix =>
    simp only [dk_step] at hrun
    split at hrun
    · rename_i c n rest hc
      split at hrun
      · rename_i g0 a hg ha
        split at hrun
        · rename_i hk
          obtain ⟨y, e2, g⟩ := IH _ _ _ _ _ _ _ hmi hGO hrun
          exact ⟨y, e2, g_anew hF hf hc hg ha hk.1 hk.2.2.1 hk.2.2.2 g⟩
        · cases hrun
      · cases hrun
    · cases hrun
  case invokevirtual ix =>
    simp only [dk_step] at hrun
    split at hrun
    · rename_i q hq
      exact dk_call_snd IH hmi hGO (Or.inl ⟨rfl, rfl⟩) hf hq hrun
    · cases hrun
  case invokespecial ix =>
    simp only [dk_step] at hrun
    split at hrun
    · rename_i q hq
      exact dk_call_snd IH hmi hGO (Or.inr (Or.inl ⟨rfl, rfl⟩)) hf hq hrun
    · cases hrun
  case invokestatic ix =>
    simp only [dk_step] at hrun
    split at hrun
    · rename_i q hq
      exact dk_call_snd IH hmi hGO (Or.inr (Or.inr ⟨rfl, rfl⟩)) hf hq hrun
    · cases hrun
  case ireturn =>
    simp only [dk_step] at hrun
    split at hrun
    · split at hrun
      · rename_i hc
        exact ⟨_, hrun, g_iret hf hc⟩
      · cases hrun
    · cases hrun
  case areturn =>
    simp only [dk_step] at hrun
    split at hrun
    · split at hrun
      · rename_i hc
        exact ⟨_, hrun, g_aret hf hc⟩
      · cases hrun
    · cases hrun
  case return_ =>
    simp only [dk_step] at hrun
    split at hrun
    · split at hrun
      · rename_i hc
        exact ⟨_, hrun, g_vret hf hc⟩
      · cases hrun
    · cases hrun
  all_goals (simp only [dk_step] at hrun; cases hrun)
end
