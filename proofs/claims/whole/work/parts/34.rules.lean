section
variable {l : Launch} {D : va_G} {ad : dkI → Nat} {cA : Nat → ClassId} {L : Nat} {xs : Nat → Int32} {H0 : Heap} {b mi pc len tg : Nat} {sw : List (Int32 × Nat)} {ls : dkL} {st : List dkV} {h : dkH} {y : dkY}
theorem g_iconst {v : Int} (hf : dk_find (dk_code mi) pc = some (.iconst v, len, tg, sw)) (k : dk_G l D ad cA L xs H0 b mi (pc + len) ls (vI (Int32.ofInt v) :: st) h y) : dk_G l D ad cA L xs H0 b mi pc ls (st) h y := by
  obtain ⟨hd, ht⟩ := dk_dec hf
  obtain rfl : len = 1 := by simpa [dk_tok, dk_il] using ht
  intro p e R s m args below meth c H locs cells slots m0 la C hR hS hl hlo hso hc1 hc2 hm
  exact lv_iconst C.1 C.2.2.1 hd rfl (k p e R s m args below meth c H locs cells slots m0 la C hR hS hl hlo (dk_alI hso) hc1 hc2 hm)
theorem g_bipush {v : Int} (hf : dk_find (dk_code mi) pc = some (.bipush v, len, tg, sw)) (k : dk_G l D ad cA L xs H0 b mi (pc + len) ls (vI (Int8.ofInt v).toInt32 :: st) h y) : dk_G l D ad cA L xs H0 b mi pc ls (st) h y := by
  obtain ⟨hd, ht⟩ := dk_dec hf
  obtain rfl : len = 2 := by simpa [dk_tok, dk_il] using ht
  intro p e R s m args below meth c H locs cells slots m0 la C hR hS hl hlo hso hc1 hc2 hm
  exact lv_bipush C.1 C.2.2.1 hd rfl (k p e R s m args below meth c H locs cells slots m0 la C hR hS hl hlo (dk_alI hso) hc1 hc2 hm)
theorem g_sipush {v : Int} (hf : dk_find (dk_code mi) pc = some (.sipush v, len, tg, sw)) (k : dk_G l D ad cA L xs H0 b mi (pc + len) ls (vI (Int16.ofInt v).toInt32 :: st) h y) : dk_G l D ad cA L xs H0 b mi pc ls (st) h y := by
  obtain ⟨hd, ht⟩ := dk_dec hf
  obtain rfl : len = 3 := by simpa [dk_tok, dk_il] using ht
  intro p e R s m args below meth c H locs cells slots m0 la C hR hS hl hlo hso hc1 hc2 hm
  exact lv_sipush C.1 C.2.2.1 hd rfl (k p e R s m args below meth c H locs cells slots m0 la C hR hS hl hlo (dk_alI hso) hc1 hc2 hm)
theorem g_lconst {v : Fin 2} (hf : dk_find (dk_code mi) pc = some (.lconst v, len, tg, sw)) (k : dk_G l D ad cA L xs H0 b mi (pc + len) ls (vL (Int64.ofNat v.val) :: st) h y) : dk_G l D ad cA L xs H0 b mi pc ls (st) h y := by
  obtain ⟨hd, ht⟩ := dk_dec hf
  obtain rfl : len = 1 := by simpa [dk_tok, dk_il] using ht
  intro p e R s m args below meth c H locs cells slots m0 la C hR hS hl hlo hso hc1 hc2 hm
  exact lv_lconst C.1 C.2.2.1 hd rfl (k p e R s m args below meth c H locs cells slots m0 la C hR hS hl hlo (dk_alL hso) hc1 hc2 hm)
theorem g_iload_n {v : Fin 4} {x : Int32} (hf : dk_find (dk_code mi) pc = some (.iload_n v, len, tg, sw)) (hg : dk_get ls v.val = some (vI x)) (k : dk_G l D ad cA L xs H0 b mi (pc + len) ls (vI x :: st) h y) : dk_G l D ad cA L xs H0 b mi pc ls (st) h y := by
  obtain ⟨hd, ht⟩ := dk_dec hf
  obtain rfl : len = 1 := by simpa [dk_tok, dk_il] using ht
  intro p e R s m args below meth c H locs cells slots m0 la C hR hS hl hlo hso hc1 hc2 hm
  exact lv_iload_n C.1 C.2.2.1 hd rfl (dk_loc hl hg) (k p e R s m args below meth c H locs cells slots m0 la C hR hS hl hlo (dk_alI hso) hc1 hc2 hm)
theorem g_iload {v : Nat} {x : Int32} (hf : dk_find (dk_code mi) pc = some (.iload v, len, tg, sw)) (hg : dk_get ls v = some (vI x)) (k : dk_G l D ad cA L xs H0 b mi (pc + len) ls (vI x :: st) h y) : dk_G l D ad cA L xs H0 b mi pc ls (st) h y := by
  obtain ⟨hd, ht⟩ := dk_dec hf
  obtain rfl : len = 2 := by simpa [dk_tok, dk_il] using ht
  intro p e R s m args below meth c H locs cells slots m0 la C hR hS hl hlo hso hc1 hc2 hm
  exact lv_iload C.1 C.2.2.1 hd (dk_loc hl hg) (k p e R s m args below meth c H locs cells slots m0 la C hR hS hl hlo (dk_alI hso) hc1 hc2 hm)
theorem g_aload_n {v : Fin 4} {x : dkI} (hf : dk_find (dk_code mi) pc = some (.aload_n v, len, tg, sw)) (hg : dk_get ls v.val = some (vR x)) (k : dk_G l D ad cA L xs H0 b mi (pc + len) ls (vR x :: st) h y) : dk_G l D ad cA L xs H0 b mi pc ls (st) h y := by
  obtain ⟨hd, ht⟩ := dk_dec hf
  obtain rfl : len = 1 := by simpa [dk_tok, dk_il] using ht
  intro p e R s m args below meth c H locs cells slots m0 la C hR hS hl hlo hso hc1 hc2 hm
  exact lv_aload_n C.1 C.2.2.1 hd rfl (dk_loc hl hg) (k p e R s m args below meth c H locs cells slots m0 la C hR hS hl hlo (dk_alV (dk_locok hlo hg) hso) hc1 hc2 hm)
theorem g_aload {v : Nat} {x : dkI} (hf : dk_find (dk_code mi) pc = some (.aload v, len, tg, sw)) (hg : dk_get ls v = some (vR x)) (k : dk_G l D ad cA L xs H0 b mi (pc + len) ls (vR x :: st) h y) : dk_G l D ad cA L xs H0 b mi pc ls (st) h y := by
  obtain ⟨hd, ht⟩ := dk_dec hf
  obtain rfl : len = 2 := by simpa [dk_tok, dk_il] using ht
  intro p e R s m args below meth c H locs cells slots m0 la C hR hS hl hlo hso hc1 hc2 hm
  exact lv_aload C.1 C.2.2.1 hd (dk_loc hl hg) (k p e R s m args below meth c H locs cells slots m0 la C hR hS hl hlo (dk_alV (dk_locok hlo hg) hso) hc1 hc2 hm)
theorem g_istore_n {v : Fin 4} {x : Int32} (hf : dk_find (dk_code mi) pc = some (.istore_n v, len, tg, sw)) (hn : v.val < dk_maxL mi) (k : dk_G l D ad cA L xs H0 b mi (pc + len) (dk_set ls v.val (vI x)) (st) h y) : dk_G l D ad cA L xs H0 b mi pc ls (vI x :: st) h y := by
  obtain ⟨hd, ht⟩ := dk_dec hf
  obtain rfl : len = 1 := by simpa [dk_tok, dk_il] using ht
  intro p e R s m args below meth c H locs cells slots m0 la C hR hS hl hlo hso hc1 hc2 hm
  exact lv_istore_n C.1 C.2.2.1 hd rfl hl hn (dk_encset (v := vI x)) (fun la' hl' => k p e R s m args below meth c H locs cells slots m0 la' C hR hS hl' (dk_setok hlo trivial) (dk_alT hso) hc1 hc2 hm)
theorem g_istore {v : Nat} {x : Int32} (hf : dk_find (dk_code mi) pc = some (.istore v, len, tg, sw)) (hn : v < dk_maxL mi) (k : dk_G l D ad cA L xs H0 b mi (pc + len) (dk_set ls v (vI x)) (st) h y) : dk_G l D ad cA L xs H0 b mi pc ls (vI x :: st) h y := by
  obtain ⟨hd, ht⟩ := dk_dec hf
  obtain rfl : len = 2 := by simpa [dk_tok, dk_il] using ht
  intro p e R s m args below meth c H locs cells slots m0 la C hR hS hl hlo hso hc1 hc2 hm
  exact lv_istore C.1 C.2.2.1 hd hl hn (dk_encset (v := vI x)) (fun la' hl' => k p e R s m args below meth c H locs cells slots m0 la' C hR hS hl' (dk_setok hlo trivial) (dk_alT hso) hc1 hc2 hm)
theorem g_astore_n {v : Fin 4} {x : dkI} (hf : dk_find (dk_code mi) pc = some (.astore_n v, len, tg, sw)) (hn : v.val < dk_maxL mi) (k : dk_G l D ad cA L xs H0 b mi (pc + len) (dk_set ls v.val (vR x)) (st) h y) : dk_G l D ad cA L xs H0 b mi pc ls (vR x :: st) h y := by
  obtain ⟨hd, ht⟩ := dk_dec hf
  obtain rfl : len = 1 := by simpa [dk_tok, dk_il] using ht
  intro p e R s m args below meth c H locs cells slots m0 la C hR hS hl hlo hso hc1 hc2 hm
  exact lv_astore_n C.1 C.2.2.1 hd rfl hl hn (dk_encset (v := vR x)) (fun la' hl' => k p e R s m args below meth c H locs cells slots m0 la' C hR hS hl' (dk_setok hlo (dk_alH hso)) (dk_alT hso) hc1 hc2 hm)
theorem g_astore {v : Nat} {x : dkI} (hf : dk_find (dk_code mi) pc = some (.astore v, len, tg, sw)) (hn : v < dk_maxL mi) (k : dk_G l D ad cA L xs H0 b mi (pc + len) (dk_set ls v (vR x)) (st) h y) : dk_G l D ad cA L xs H0 b mi pc ls (vR x :: st) h y := by
  obtain ⟨hd, ht⟩ := dk_dec hf
  obtain rfl : len = 2 := by simpa [dk_tok, dk_il] using ht
  intro p e R s m args below meth c H locs cells slots m0 la C hR hS hl hlo hso hc1 hc2 hm
  exact lv_astore C.1 C.2.2.1 hd hl hn (dk_encset (v := vR x)) (fun la' hl' => k p e R s m args below meth c H locs cells slots m0 la' C hR hS hl' (dk_setok hlo (dk_alH hso)) (dk_alT hso) hc1 hc2 hm)
theorem g_iadd {x z : Int32} (hf : dk_find (dk_code mi) pc = some (.iadd, len, tg, sw)) (k : dk_G l D ad cA L xs H0 b mi (pc + len) ls (vI (x + z) :: st) h y) : dk_G l D ad cA L xs H0 b mi pc ls (vI z :: vI x :: st) h y := by
  obtain ⟨hd, ht⟩ := dk_dec hf
  obtain rfl : len = 1 := by simpa [dk_tok, dk_il] using ht
  intro p e R s m args below meth c H locs cells slots m0 la C hR hS hl hlo hso hc1 hc2 hm
  exact lv_iadd C.1 C.2.2.1 hd (k p e R s m args below meth c H locs cells slots m0 la C hR hS hl hlo (dk_alI (dk_alT (dk_alT hso))) hc1 hc2 hm)
theorem g_isub {x z : Int32} (hf : dk_find (dk_code mi) pc = some (.isub, len, tg, sw)) (k : dk_G l D ad cA L xs H0 b mi (pc + len) ls (vI (x - z) :: st) h y) : dk_G l D ad cA L xs H0 b mi pc ls (vI z :: vI x :: st) h y := by
  obtain ⟨hd, ht⟩ := dk_dec hf
  obtain rfl : len = 1 := by simpa [dk_tok, dk_il] using ht
  intro p e R s m args below meth c H locs cells slots m0 la C hR hS hl hlo hso hc1 hc2 hm
  exact lv_isub C.1 C.2.2.1 hd (k p e R s m args below meth c H locs cells slots m0 la C hR hS hl hlo (dk_alI (dk_alT (dk_alT hso))) hc1 hc2 hm)
theorem g_imul {x z : Int32} (hf : dk_find (dk_code mi) pc = some (.imul, len, tg, sw)) (k : dk_G l D ad cA L xs H0 b mi (pc + len) ls (vI (x * z) :: st) h y) : dk_G l D ad cA L xs H0 b mi pc ls (vI z :: vI x :: st) h y := by
  obtain ⟨hd, ht⟩ := dk_dec hf
  obtain rfl : len = 1 := by simpa [dk_tok, dk_il] using ht
  intro p e R s m args below meth c H locs cells slots m0 la C hR hS hl hlo hso hc1 hc2 hm
  exact lv_imul C.1 C.2.2.1 hd (k p e R s m args below meth c H locs cells slots m0 la C hR hS hl hlo (dk_alI (dk_alT (dk_alT hso))) hc1 hc2 hm)
theorem g_iand {x z : Int32} (hf : dk_find (dk_code mi) pc = some (.iand, len, tg, sw)) (k : dk_G l D ad cA L xs H0 b mi (pc + len) ls (vI (x &&& z) :: st) h y) : dk_G l D ad cA L xs H0 b mi pc ls (vI z :: vI x :: st) h y := by
  obtain ⟨hd, ht⟩ := dk_dec hf
  obtain rfl : len = 1 := by simpa [dk_tok, dk_il] using ht
  intro p e R s m args below meth c H locs cells slots m0 la C hR hS hl hlo hso hc1 hc2 hm
  exact lv_iand C.1 C.2.2.1 hd (k p e R s m args below meth c H locs cells slots m0 la C hR hS hl hlo (dk_alI (dk_alT (dk_alT hso))) hc1 hc2 hm)
theorem g_idiv {x z : Int32} (hf : dk_find (dk_code mi) pc = some (.idiv, len, tg, sw)) (hz : ¬ z = 0) (k : dk_G l D ad cA L xs H0 b mi (pc + len) ls (vI (x / z) :: st) h y) : dk_G l D ad cA L xs H0 b mi pc ls (vI z :: vI x :: st) h y := by
  obtain ⟨hd, ht⟩ := dk_dec hf
  obtain rfl : len = 1 := by simpa [dk_tok, dk_il] using ht
  intro p e R s m args below meth c H locs cells slots m0 la C hR hS hl hlo hso hc1 hc2 hm
  exact lv_idiv C.1 C.2.2.1 hd hz (k p e R s m args below meth c H locs cells slots m0 la C hR hS hl hlo (dk_alI (dk_alT (dk_alT hso))) hc1 hc2 hm)
theorem g_irem {x z : Int32} (hf : dk_find (dk_code mi) pc = some (.irem, len, tg, sw)) (hz : ¬ z = 0) (k : dk_G l D ad cA L xs H0 b mi (pc + len) ls (vI (x - x / z * z) :: st) h y) : dk_G l D ad cA L xs H0 b mi pc ls (vI z :: vI x :: st) h y := by
  obtain ⟨hd, ht⟩ := dk_dec hf
  obtain rfl : len = 1 := by simpa [dk_tok, dk_il] using ht
  intro p e R s m args below meth c H locs cells slots m0 la C hR hS hl hlo hso hc1 hc2 hm
  exact lv_irem C.1 C.2.2.1 hd hz (k p e R s m args below meth c H locs cells slots m0 la C hR hS hl hlo (dk_alI (dk_alT (dk_alT hso))) hc1 hc2 hm)
theorem g_i2l {x : Int32} (hf : dk_find (dk_code mi) pc = some (.i2l, len, tg, sw)) (k : dk_G l D ad cA L xs H0 b mi (pc + len) ls (vL x.toInt64 :: st) h y) : dk_G l D ad cA L xs H0 b mi pc ls (vI x :: st) h y := by
  obtain ⟨hd, ht⟩ := dk_dec hf
  obtain rfl : len = 1 := by simpa [dk_tok, dk_il] using ht
  intro p e R s m args below meth c H locs cells slots m0 la C hR hS hl hlo hso hc1 hc2 hm
  exact lv_i2l C.1 C.2.2.1 hd rfl (k p e R s m args below meth c H locs cells slots m0 la C hR hS hl hlo (dk_alL (dk_alT hso)) hc1 hc2 hm)
theorem g_lcmp {x z : Int64} (hf : dk_find (dk_code mi) pc = some (.lcmp, len, tg, sw)) (k : dk_G l D ad cA L xs H0 b mi (pc + len) ls (vI (lg_cmp x z) :: st) h y) : dk_G l D ad cA L xs H0 b mi pc ls (vL z :: vL x :: st) h y := by
  obtain ⟨hd, ht⟩ := dk_dec hf
  obtain rfl : len = 1 := by simpa [dk_tok, dk_il] using ht
  intro p e R s m args below meth c H locs cells slots m0 la C hR hS hl hlo hso hc1 hc2 hm
  exact W.lcmp C.1 C.2.2.1 hd (k p e R s m args below meth c H locs cells slots m0 la C hR hS hl hlo (dk_alI (dk_alT (dk_alT hso))) hc1 hc2 hm)
theorem g_dupI {x : Int32} (hf : dk_find (dk_code mi) pc = some (.dup, len, tg, sw)) (k : dk_G l D ad cA L xs H0 b mi (pc + len) ls (vI x :: vI x :: st) h y) : dk_G l D ad cA L xs H0 b mi pc ls (vI x :: st) h y := by
  obtain ⟨hd, ht⟩ := dk_dec hf
  obtain rfl : len = 1 := by simpa [dk_tok, dk_il] using ht
  intro p e R s m args below meth c H locs cells slots m0 la C hR hS hl hlo hso hc1 hc2 hm
  exact lv_dup C.1 C.2.2.1 hd rfl (k p e R s m args below meth c H locs cells slots m0 la C hR hS hl hlo (dk_alI hso) hc1 hc2 hm)
theorem g_dupR {x : dkI} (hf : dk_find (dk_code mi) pc = some (.dup, len, tg, sw)) (k : dk_G l D ad cA L xs H0 b mi (pc + len) ls (vR x :: vR x :: st) h y) : dk_G l D ad cA L xs H0 b mi pc ls (vR x :: st) h y := by
  obtain ⟨hd, ht⟩ := dk_dec hf
  obtain rfl : len = 1 := by simpa [dk_tok, dk_il] using ht
  intro p e R s m args below meth c H locs cells slots m0 la C hR hS hl hlo hso hc1 hc2 hm
  exact lv_dup C.1 C.2.2.1 hd rfl (k p e R s m args below meth c H locs cells slots m0 la C hR hS hl hlo (dk_alV (dk_alH hso) hso) hc1 hc2 hm)
theorem g_dup2 {x : dkI} {z : Int32} (hf : dk_find (dk_code mi) pc = some (.dup2, len, tg, sw)) (k : dk_G l D ad cA L xs H0 b mi (pc + len) ls (vI z :: vR x :: vI z :: vR x :: st) h y) : dk_G l D ad cA L xs H0 b mi pc ls (vI z :: vR x :: st) h y := by
  obtain ⟨hd, ht⟩ := dk_dec hf
  obtain rfl : len = 1 := by simpa [dk_tok, dk_il] using ht
  intro p e R s m args below meth c H locs cells slots m0 la C hR hS hl hlo hso hc1 hc2 hm
  exact lv_dup2_11 C.1 C.2.2.1 hd rfl rfl (k p e R s m args below meth c H locs cells slots m0 la C hR hS hl hlo (dk_alI (dk_alV (dk_alH (dk_alT hso)) hso)) hc1 hc2 hm)
theorem g_iinc {v : Nat} {n : Int} {x : Int32} (hf : dk_find (dk_code mi) pc = some (.iinc v n, len, tg, sw)) (hg : dk_get ls v = some (vI x)) (hn : v < dk_maxL mi) (k : dk_G l D ad cA L xs H0 b mi (pc + len) (dk_set ls v (vI (x + Int32.ofInt n))) st h y) : dk_G l D ad cA L xs H0 b mi pc ls st h y := by
  obtain ⟨hd, ht⟩ := dk_dec hf
  obtain rfl : len = 3 := by simpa [dk_tok, dk_il] using ht
  intro p e R s m args below meth c H locs cells slots m0 la C hR hS hl hlo hso hc1 hc2 hm
  obtain ⟨j, hj⟩ := List.getElem?_of_mem (List.mem_map.mpr ⟨(v, vI x), dk_get_mem ls v _ hg, rfl⟩ : (v, dk_enc ad (vI x)) ∈ dk_encL ad ls)
  exact lv_iinc C.1 C.2.2.1 hd hl hj rfl hn (dk_encset (v := vI (x + Int32.ofInt n))) (fun la' hl' => k p e R s m args below meth c H locs cells slots m0 la' C hR hS hl' (dk_setok hlo trivial) hso hc1 hc2 hm)
theorem g_goto {o : Int} (hf : dk_find (dk_code mi) pc = some (.goto o, len, tg, sw)) (k : dk_G l D ad cA L xs H0 b mi tg ls st h y) : dk_G l D ad cA L xs H0 b mi pc ls st h y := by
  obtain ⟨hd, ht⟩ := dk_dec hf
  simp only [dk_tok, Bool.and_eq_true, decide_eq_true_eq, beq_iff_eq] at ht
  obtain ⟨ht, rfl⟩ := ht
  intro p e R s m args below meth c H locs cells slots m0 la C hR hS hl hlo hso hc1 hc2 hm
  exact lv_goto C.1 C.2.2.1 hd ht (k p e R s m args below meth c H locs cells slots m0 la C hR hS hl hlo hso hc1 hc2 hm)
end
