theorem dk_find_mem {α : Type} : ∀ (l : List (Nat × α)) (k : Nat) (v : α), dk_find l k = some v → (k, v) ∈ l
  | [], k, v, h => by simp [dk_find] at h
  | q :: r, k, v, h => by
    rw [dk_find] at h
    by_cases hq : q.1 = k
    · rw [if_pos hq] at h
      have e : q = (k, v) := Prod.ext hq (Option.some.inj h)
      rw [e]; exact List.mem_cons_self
    · rw [if_neg hq] at h
      exact List.mem_cons_of_mem _ (dk_find_mem r k v h)
theorem dk_chunks {b : ByteArray} {l : List (Nat × dkE)} (m : Nat) (h : ∀ j, j < m → dk_chkR b l (60 * j) 60 = true) (hl : l.length ≤ 60 * m) : l.all (dk_chk b) = true := by
  rw [List.all_eq_true]
  intro q hq
  obtain ⟨k, hk, e⟩ := List.getElem_of_mem hq
  have h1 := h (k / 60) (by omega)
  rw [dk_chkR, List.all_eq_true] at h1
  refine h1 q ?_
  refine List.mem_of_getElem? (i := k % 60) ?_
  rw [List.getElem?_take, if_pos (by omega), List.getElem?_drop, show 60 * (k / 60) + k % 60 = k by omega, List.getElem?_eq_getElem hk, e]
theorem dk_k46 : dk_c46.all (dk_chk (dk_bytes 46)) = true := dk_chunks 2 (fun j hj => by
  match j, hj with
  | 0, _ => exact dk_k46_0
  | 1, _ => exact dk_k46_1
  | j + 2, hj => omega) (by decide +kernel)
theorem dk_k69 : dk_c69.all (dk_chk (dk_bytes 69)) = true := dk_chunks 2 (fun j hj => by
  match j, hj with
  | 0, _ => exact dk_k69_0
  | 1, _ => exact dk_k69_1
  | j + 2, hj => omega) (by decide +kernel)
theorem dk_k71 : dk_c71.all (dk_chk (dk_bytes 71)) = true := dk_chunks 4 (fun j hj => by
  match j, hj with
  | 0, _ => exact dk_k71_0
  | 1, _ => exact dk_k71_1
  | 2, _ => exact dk_k71_2
  | 3, _ => exact dk_k71_3
  | j + 4, hj => omega) (by decide +kernel)
theorem dk_k78 : dk_c78.all (dk_chk (dk_bytes 78)) = true := dk_chunks 2 (fun j hj => by
  match j, hj with
  | 0, _ => exact dk_k78_0
  | 1, _ => exact dk_k78_1
  | j + 2, hj => omega) (by decide +kernel)
theorem dk_k81 : dk_c81.all (dk_chk (dk_bytes 81)) = true := dk_chunks 2 (fun j hj => by
  match j, hj with
  | 0, _ => exact dk_k81_0
  | 1, _ => exact dk_k81_1
  | j + 2, hj => omega) (by decide +kernel)
theorem dk_k84 : dk_c84.all (dk_chk (dk_bytes 84)) = true := dk_chunks 2 (fun j hj => by
  match j, hj with
  | 0, _ => exact dk_k84_0
  | 1, _ => exact dk_k84_1
  | j + 2, hj => omega) (by decide +kernel)
theorem dk_k85 : dk_c85.all (dk_chk (dk_bytes 85)) = true := dk_chunks 3 (fun j hj => by
  match j, hj with
  | 0, _ => exact dk_k85_0
  | 1, _ => exact dk_k85_1
  | 2, _ => exact dk_k85_2
  | j + 3, hj => omega) (by decide +kernel)
theorem dk_k91 : dk_c91.all (dk_chk (dk_bytes 91)) = true := dk_chunks 3 (fun j hj => by
  match j, hj with
  | 0, _ => exact dk_k91_0
  | 1, _ => exact dk_k91_1
  | 2, _ => exact dk_k91_2
  | j + 3, hj => omega) (by decide +kernel)
theorem dk_k92 : dk_c92.all (dk_chk (dk_bytes 92)) = true := dk_chunks 2 (fun j hj => by
  match j, hj with
  | 0, _ => exact dk_k92_0
  | 1, _ => exact dk_k92_1
  | j + 2, hj => omega) (by decide +kernel)
theorem dk_k95 : dk_c95.all (dk_chk (dk_bytes 95)) = true := dk_chunks 2 (fun j hj => by
  match j, hj with
  | 0, _ => exact dk_k95_0
  | 1, _ => exact dk_k95_1
  | j + 2, hj => omega) (by decide +kernel)
theorem dk_k96 : dk_c96.all (dk_chk (dk_bytes 96)) = true := dk_chunks 2 (fun j hj => by
  match j, hj with
  | 0, _ => exact dk_k96_0
  | 1, _ => exact dk_k96_1
  | j + 2, hj => omega) (by decide +kernel)
theorem dk_k99 : dk_c99.all (dk_chk (dk_bytes 99)) = true := dk_chunks 2 (fun j hj => by
  match j, hj with
  | 0, _ => exact dk_k99_0
  | 1, _ => exact dk_k99_1
  | j + 2, hj => omega) (by decide +kernel)
theorem dk_k102 : dk_c102.all (dk_chk (dk_bytes 102)) = true := dk_chunks 2 (fun j hj => by
  match j, hj with
  | 0, _ => exact dk_k102_0
  | 1, _ => exact dk_k102_1
  | j + 2, hj => omega) (by decide +kernel)
theorem dk_k103 : dk_c103.all (dk_chk (dk_bytes 103)) = true := dk_chunks 2 (fun j hj => by
  match j, hj with
  | 0, _ => exact dk_k103_0
  | 1, _ => exact dk_k103_1
  | j + 2, hj => omega) (by decide +kernel)
theorem dk_k104 : dk_c104.all (dk_chk (dk_bytes 104)) = true := dk_chunks 9 (fun j hj => by
  match j, hj with
  | 0, _ => exact dk_k104_0
  | 1, _ => exact dk_k104_1
  | 2, _ => exact dk_k104_2
  | 3, _ => exact dk_k104_3
  | 4, _ => exact dk_k104_4
  | 5, _ => exact dk_k104_5
  | 6, _ => exact dk_k104_6
  | 7, _ => exact dk_k104_7
  | 8, _ => exact dk_k104_8
  | j + 9, hj => omega) (by decide +kernel)
theorem dk_kall (mi : Nat) : (dk_code mi).all (dk_chk (dk_bytes mi)) = true := by
  match mi with
  | 0 => exact dk_k0
  | 1 => exact dk_k1
  | 2 => exact dk_k2
  | 3 => exact dk_k3
  | 4 => exact dk_k4
  | 5 => exact dk_k5
  | 6 => exact dk_k6
  | 7 => exact dk_k7
  | 8 => exact dk_k8
  | 9 => exact dk_k9
  | 10 => exact dk_k10
  | 11 => exact dk_k11
  | 12 => exact dk_k12
  | 13 => exact dk_k13
  | 14 => exact dk_k14
  | 15 => exact dk_k15
  | 16 => exact dk_k16
  | 17 => exact dk_k17
  | 18 => exact dk_k18
  | 19 => exact dk_k19
  | 20 => exact dk_k20
  | 21 => exact dk_k21
  | 22 => exact dk_k22
  | 23 => exact dk_k23
  | 24 => exact dk_k24
  | 25 => exact dk_k25
  | 26 => exact dk_k26
  | 27 => exact dk_k27
  | 28 => exact dk_k28
  | 29 => exact dk_k29
  | 30 => exact dk_k30
  | 31 => exact dk_k31
  | 32 => exact dk_k32
  | 33 => exact dk_k33
  | 34 => exact dk_k34
  | 35 => exact dk_k35
  | 36 => exact dk_k36
  | 37 => exact dk_k37
  | 38 => exact dk_k38
  | 39 => exact dk_k39
  | 40 => exact dk_k40
  | 41 => exact dk_k41
  | 42 => exact dk_k42
  | 43 => exact dk_k43
  | 44 => exact dk_k44
  | 45 => exact dk_k45
  | 46 => exact dk_k46
  | 47 => exact dk_k47
  | 48 => exact dk_k48
  | 49 => exact dk_k49
  | 50 => exact dk_k50
  | 51 => exact dk_k51
  | 52 => exact dk_k52
  | 53 => exact dk_k53
  | 54 => exact dk_k54
  | 55 => exact dk_k55
  | 56 => exact dk_k56
  | 57 => exact dk_k57
  | 58 => exact dk_k58
  | 59 => exact dk_k59
  | 60 => exact dk_k60
  | 61 => exact dk_k61
  | 62 => exact dk_k62
  | 63 => exact dk_k63
  | 64 => exact dk_k64
  | 65 => exact dk_k65
  | 66 => exact dk_k66
  | 67 => exact dk_k67
  | 68 => exact dk_k68
  | 69 => exact dk_k69
  | 70 => exact dk_k70
  | 71 => exact dk_k71
  | 72 => exact dk_k72
  | 73 => exact dk_k73
  | 74 => exact dk_k74
  | 75 => exact dk_k75
  | 76 => exact dk_k76
  | 77 => exact dk_k77
  | 78 => exact dk_k78
  | 79 => exact dk_k79
  | 80 => exact dk_k80
  | 81 => exact dk_k81
  | 82 => exact dk_k82
  | 83 => exact dk_k83
  | 84 => exact dk_k84
  | 85 => exact dk_k85
  | 86 => exact dk_k86
  | 87 => exact dk_k87
  | 88 => exact dk_k88
  | 89 => exact dk_k89
  | 90 => exact dk_k90
  | 91 => exact dk_k91
  | 92 => exact dk_k92
  | 93 => exact dk_k93
  | 94 => exact dk_k94
  | 95 => exact dk_k95
  | 96 => exact dk_k96
  | 97 => exact dk_k97
  | 98 => exact dk_k98
  | 99 => exact dk_k99
  | 100 => exact dk_k100
  | 101 => exact dk_k101
  | 102 => exact dk_k102
  | 103 => exact dk_k103
  | 104 => exact dk_k104
  | n + 105 => rfl
theorem dk_dec {mi pc : Nat} {i : Instr} {len tg : Nat} {sw : List (Int32 × Nat)} (h : dk_find (dk_code mi) pc = some (i, len, tg, sw)) : decode (dk_bytes mi) pc = .ok (i, len) ∧ dk_tok pc i len tg sw = true := by
  have h1 := List.all_eq_true.mp (dk_kall mi) _ (dk_find_mem _ _ _ h)
  simp only [dk_chk, Bool.and_eq_true, decide_eq_true_eq] at h1
  exact h1
