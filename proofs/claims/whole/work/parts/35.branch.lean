section
variable {l : Launch} {D : va_G} {ad : dkI → Nat} {cA : Nat → ClassId} {L : Nat} {xs : Nat → Int32} {H0 : Heap} {b mi pc len tg : Nat} {sw : List (Int32 × Nat)} {ls : dkL} {st : List dkV} {h : dkH} {y : dkY}
def dk_holds (c : ClassFile.Cond) (x z : Int32) : Prop := match c with
  | .eq => x = z
  | .ne => ¬ x = z
  | .lt => x < z
  | .ge => ¬ x < z
  | .gt => z < x
  | .le => ¬ z < x
theorem dk_cond_some {c : ClassFile.Cond} {x z : Int32} {A B r : dkR} (h : dk_cond c x z A B = r) : (dk_holds c x z ∧ A = r) ∨ (¬ dk_holds c x z ∧ B = r) := by
  cases c <;> simp only [dk_cond, dk_holds] at h ⊢ <;> split at h <;> simp_all
theorem i32_nlt {x z : Int32} : ¬ x < z ↔ z ≤ x := by
  rw [Int32.lt_iff_toInt_lt, Int32.le_iff_toInt_le]; omega
theorem g_ifc {c : ClassFile.Cond} {o : Int} {x : Int32} (hf : dk_find (dk_code mi) pc = some (.ifCond c o, len, tg, sw)) (kt : dk_holds c x 0 → dk_G l D ad cA L xs H0 b mi tg ls st h y) (kf : ¬ dk_holds c x 0 → dk_G l D ad cA L xs H0 b mi (pc + len) ls st h y) : dk_G l D ad cA L xs H0 b mi pc ls (vI x :: st) h y := by
  obtain ⟨hd, ht⟩ := dk_dec hf
  simp only [dk_tok, Bool.and_eq_true, decide_eq_true_eq, beq_iff_eq] at ht
  obtain ⟨ht, rfl⟩ := ht
  intro p e R s m args below meth cc H locs cells slots m0 la C hR hS hl hlo hso hc1 hc2 hm
  have ka := fun z => kt z p e R s m args below meth cc H locs cells slots m0 la C hR hS hl hlo (dk_alT hso) hc1 hc2 hm
  have kb := fun z => kf z p e R s m args below meth cc H locs cells slots m0 la C hR hS hl hlo (dk_alT hso) hc1 hc2 hm
  cases c with
  | eq => exact lv_if_eq C.1 C.2.2.1 hd ht ka kb
  | ne => exact lv_if_ne C.1 C.2.2.1 hd ht ka (fun z => kb (fun q => q z))
  | lt => exact lv_if_lt C.1 C.2.2.1 hd ht ka kb
  | ge => exact lv_if_ge C.1 C.2.2.1 hd ht (fun z => ka (i32_nlt.mpr z)) (fun z => kb (fun q => z (i32_nlt.mp q)))
  | gt => exact lv_if_gt C.1 C.2.2.1 hd ht ka kb
  | le => exact lv_if_le C.1 C.2.2.1 hd ht (fun z => ka (i32_nlt.mpr z)) (fun z => kb (fun q => z (i32_nlt.mp q)))
theorem g_icmp {c : ClassFile.Cond} {o : Int} {x z : Int32} (hf : dk_find (dk_code mi) pc = some (.if_icmp c o, len, tg, sw)) (kt : dk_holds c x z → dk_G l D ad cA L xs H0 b mi tg ls st h y) (kf : ¬ dk_holds c x z → dk_G l D ad cA L xs H0 b mi (pc + len) ls st h y) : dk_G l D ad cA L xs H0 b mi pc ls (vI z :: vI x :: st) h y := by
  obtain ⟨hd, ht⟩ := dk_dec hf
  simp only [dk_tok, Bool.and_eq_true, decide_eq_true_eq, beq_iff_eq] at ht
  obtain ⟨ht, rfl⟩ := ht
  intro p e R s m args below meth cc H locs cells slots m0 la C hR hS hl hlo hso hc1 hc2 hm
  have ka := fun w => kt w p e R s m args below meth cc H locs cells slots m0 la C hR hS hl hlo (dk_alT (dk_alT hso)) hc1 hc2 hm
  have kb := fun w => kf w p e R s m args below meth cc H locs cells slots m0 la C hR hS hl hlo (dk_alT (dk_alT hso)) hc1 hc2 hm
  cases c with
  | eq => exact lv_icmp_eq C.1 C.2.2.1 hd ht ka kb
  | ne => exact lv_icmp_ne C.1 C.2.2.1 hd ht ka (fun w => kb (fun q => q w))
  | lt => exact lv_icmp_lt C.1 C.2.2.1 hd ht ka kb
  | ge => exact lv_icmp_ge C.1 C.2.2.1 hd ht (fun w => ka (i32_nlt.mpr w)) (fun w => kb (fun q => w (i32_nlt.mp q)))
  | gt => exact lv_icmp_gt C.1 C.2.2.1 hd ht ka kb
  | le => exact lv_icmp_le C.1 C.2.2.1 hd ht (fun w => ka (i32_nlt.mpr w)) (fun w => kb (fun q => w (i32_nlt.mp q)))
def dk_swt (d : Nat) (x : Int32) : List (Int32 × Nat) → Nat
  | [] => d
  | q :: r => if x = q.1 then q.2 else dk_swt d x r
theorem dk_sw_eq (k : Nat → dkR) (d : Nat) (x : Int32) : ∀ sw, dk_sw k d x sw = k (dk_swt d x sw)
  | [] => rfl
  | q :: r => by
    rw [dk_sw, dk_swt]
    split
    · rfl
    · exact dk_sw_eq k d x r
theorem dk_tsw_spec {pc : Int} {d : Nat} {x : Int32} : ∀ (offs : List Int) (sw : List (Int32 × Nat)) (lo : Int), dk_tsw pc lo offs sw = true →
    ((x.toInt < lo ∨ lo + offs.length ≤ x.toInt) → dk_swt d x sw = d) ∧ (lo ≤ x.toInt → x.toInt < lo + offs.length → ∃ off, offs[(x.toInt - lo).toNat]? = some off ∧ pc + off = (dk_swt d x sw : Int))
  | [], [], lo, _ => ⟨fun _ => rfl, fun h1 h2 => by simp at h2; omega⟩
  | [], _ :: _, lo, hh => by simp [dk_tsw] at hh
  | _ :: _, [], lo, hh => by simp [dk_tsw] at hh
  | o :: os, q :: qs, lo, hh => by
    simp only [dk_tsw, Bool.and_eq_true, decide_eq_true_eq] at hh
    obtain ⟨⟨h1, h2⟩, h3⟩ := hh
    obtain ⟨i1, i2⟩ := dk_tsw_spec (d := d) (x := x) os qs (lo + 1) h3
    refine ⟨fun hx => ?_, fun g1 g2 => ?_⟩
    · rw [dk_swt, if_neg (fun e => by rw [e, h1] at hx; simp at hx; omega)]
      exact i1 (by simp at hx; omega)
    · by_cases he : x = q.1
      · refine ⟨o, ?_, ?_⟩
        · rw [show x.toInt - lo = 0 by rw [he, h1]; omega]; rfl
        · rw [dk_swt, if_pos he]; exact h2
      · have hne : x.toInt ≠ lo := fun e => he (Int32.toInt_inj.mp (by rw [e, h1]))
        simp only [List.length_cons] at g2
        obtain ⟨off, e1, e2⟩ := i2 (by omega) (by omega)
        refine ⟨off, ?_, ?_⟩
        · rw [show (x.toInt - lo).toNat = (x.toInt - (lo + 1)).toNat + 1 by omega, List.getElem?_cons_succ]; exact e1
        · rw [dk_swt, if_neg he]; exact e2
theorem g_tsw {d lo hi : Int} {offs : Array Int} {x : Int32} (hf : dk_find (dk_code mi) pc = some (.tableswitch d lo hi offs, len, tg, sw)) (k : dk_G l D ad cA L xs H0 b mi (dk_swt tg x sw) ls st h y) : dk_G l D ad cA L xs H0 b mi pc ls (vI x :: st) h y := by
  obtain ⟨hd, ht⟩ := dk_dec hf
  simp only [dk_tok, Bool.and_eq_true, decide_eq_true_eq] at ht
  obtain ⟨⟨ht, hh⟩, h3⟩ := ht
  obtain ⟨i1, i2⟩ := dk_tsw_spec (d := tg) (x := x) offs.toList sw lo h3
  intro p e R s m args below meth cc H locs cells slots m0 la C hR hS hl hlo hso hc1 hc2 hm
  have ka := k p e R s m args below meth cc H locs cells slots m0 la C hR hS hl hlo (dk_alT hso) hc1 hc2 hm
  by_cases hx : x.toInt < lo ∨ hi < x.toInt
  · rw [i1 (by simp; omega)] at ka
    exact lv_tableOut C.1 C.2.2.1 hd hx ht ka
  · obtain ⟨off, e1, e2⟩ := i2 (by omega) (by simp; omega)
    exact lv_tableIn C.1 C.2.2.1 hd (fun z => hx (Or.inl z)) (fun z => hx (Or.inr z)) (by rw [← Array.getElem?_toList]; exact e1) e2 ka
/-! returns -/
theorem dk_fin_ret {R : Room} {s : State} {args : Array Value} {below : List Frame} {H : Heap} {locs : List Loc} {cells slots m0 : Nat} {o0 : Outcome} {out : dkO} (hR : dk_Rep D ad cA L xs H0 h H) (hS : va_S (dk_A H0) H0 H locs)
    (hc1 : cells + 1000 ≤ R.cells + (h.2.2.2.1 + h.2.2.2.2)) (hc2 : slots + 2000000 ≤ R.slots + (5120 * h.2.2.2.1 + 6 * h.2.2.2.2)) (hm : m0 ≤ h.2.2.2.1) (ho : ∀ t : State, dk_Out ad s t (h, out) o0) (t : State)
    (ht : MQ below (fun _ _ o t => o = o0 ∧ t.heap = H) args s cells slots (dk_A H0) t) : dk_Fin D ad cA L xs H0 below s R m0 (h, out) t := by
  obtain ⟨o, h1, h2, ⟨rfl, h3⟩, Lc, ⟨-, h5, h6⟩, h7⟩ := ht
  exact ⟨o, Lc, cells, slots, h1, h2, h5, h6, ⟨by rw [h3]; exact hS.1, fun q a1 a2 => by rw [h3]; exact hS.2.1 q a1 a2, h7⟩, by rw [h3]; exact hR, hc1, hc2, hm, ho t⟩
theorem g_iret {x : Int32} (hf : dk_find (dk_code mi) pc = some (.ireturn, len, tg, sw)) (hr : dk_ret mi = 1 ∨ (dk_ret mi = 2 ∧ (x = 0 ∨ x = 1))) : dk_G l D ad cA L xs H0 b mi pc ls [vI x] h (h, .inl (some (vI x))) := by
  obtain ⟨hd, ht⟩ := dk_dec hf
  obtain rfl : len = 1 := by simpa [dk_tok, dk_il] using ht
  intro p e R s m args below meth c H locs cells slots m0 la C hR hS hl hlo hso hc1 hc2 hm
  have hlocks : meth.locks = false := C.2.2.2.2.2.1
  have hret := C.2.2.2.2.1
  refine W_mono (dk_fin_ret (args := args) hR hS hc1 hc2 hm (o0 := .returned (some (.int x))) (fun t => ⟨rfl, trivial⟩)) ?_
  rcases hr with hr | ⟨hr, hx⟩
  · simp only [dk_rt, hr] at hret
    exact W.iret C.1 C.2.2.1 hret (fun t ht _ => ⟨rfl, ht⟩) hS.2.2 hd hlocks
  · simp only [dk_rt, hr] at hret
    exact W.zret C.1 C.2.2.1 hret (by rcases hx with rfl | rfl <;> decide) (fun t ht _ => ⟨rfl, ht⟩) hS.2.2 hd hlocks
theorem g_vret (hf : dk_find (dk_code mi) pc = some (.return_, len, tg, sw)) (hr : dk_ret mi = 0) : dk_G l D ad cA L xs H0 b mi pc ls [] h (h, .inl none) := by
  obtain ⟨hd, ht⟩ := dk_dec hf
  obtain rfl : len = 1 := by simpa [dk_tok, dk_il] using ht
  intro p e R s m args below meth c H locs cells slots m0 la C hR hS hl hlo hso hc1 hc2 hm
  have hlocks : meth.locks = false := C.2.2.2.2.2.1
  have hret := C.2.2.2.2.1
  simp only [dk_rt, hr] at hret
  exact W_mono (dk_fin_ret (args := args) hR hS hc1 hc2 hm (o0 := .returned none) (fun t => rfl)) (W.vret C.1 C.2.2.1 hret (fun t ht _ => ⟨rfl, ht⟩) hS.2.2 hd hlocks)
theorem g_aret {a : dkI} (hf : dk_find (dk_code mi) pc = some (.areturn, len, tg, sw)) (hr : dk_ret mi = 3) : dk_G l D ad cA L xs H0 b mi pc ls [vR a] h (h, .inl (some (vR a))) := by
  obtain ⟨hd, ht⟩ := dk_dec hf
  obtain rfl : len = 1 := by simpa [dk_tok, dk_il] using ht
  intro p e R s m args below meth c H locs cells slots m0 la C hR hS hl hlo hso hc1 hc2 hm
  have hlocks : meth.locks = false := C.2.2.2.2.2.1
  have hret := C.2.2.2.2.1
  simp only [dk_rt, hr] at hret
  obtain ⟨n, hret⟩ := hret
  exact W_mono (dk_fin_ret (args := args) hR hS hc1 hc2 hm (o0 := .returned (some (.ref (ad a)))) (fun t => ⟨rfl, dk_alH hso⟩)) (W.aret (v := .ref (ad a)) C.1 C.2.2.1 hret (Or.inl ⟨n, rfl⟩) (Or.inr ⟨_, rfl⟩) (fun t ht _ => ⟨rfl, ht⟩) hS.2.2 hd hlocks)
end
