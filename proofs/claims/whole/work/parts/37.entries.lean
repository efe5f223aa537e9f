/-! what the instructions' entries say, over the whole code -/
def dk_fin (c f : Nat) : Bool := (dk_T c f).2.2.2
def dk_putok (mi ix : Nat) : Bool := match dk_fld mi ix with
  | some (ci, f, _, nest) => !dk_fin ci f || (!nest && decide ((dk_y mi).name = "<init>") && decide (dk_oc mi = ci))
  | none => false
def dk_strT : List (Nat × String) := [(5197, "no such process"), (5046, "the process is live already"), (5199, "the process is not live"), (5063, "no such kind or channel"), (5075, "not idle, or four guards already"), (5082, "no such number of ticks"), (5201, "the process is not idle"), (5114, "the process is idle"), (5129, "no offer that came to its end"), (5146, "no such what"), (5152, "no such channel or entry"), (5164, "no such pair"), (5181, "no such number of steps"), (5186, "no process is live")]
def dk_throwok (mi pc e : Nat) : Bool := decide (dk_han mi = []) && decide (dk_oc mi = 5) && match dk_find (dk_code mi) (pc + 3), dk_find (dk_code mi) (pc + 4), dk_find (dk_code mi) (pc + 6), dk_find (dk_code mi) (pc + 9) with
  | some (.dup, _, _, _), some (.ldc k, _, _, _), some (.invokespecial ic, _, _, _), some (.athrow, _, _, _) => (dk_find dk_strT (5000 + k)).isSome && decide (k < 1000) && decide (ic < 1000) && decide (dk_callT mi ic = some (9, e, 2, 1, false))
  | _, _, _, _ => false
def dk_chk2 (mi : Nat) (q : Nat × dkE) : Bool := match q.2.1 with
  | .getfield ix => Nat.blt ix 1000
  | .putfield ix => Nat.blt ix 1000 && dk_putok mi ix
  | .invokevirtual ix => Nat.blt ix 1000
  | .invokespecial ix => Nat.blt ix 1000
  | .invokestatic ix => Nat.blt ix 1000
  | .ldc ix => Nat.blt ix 1000
  | .anewarray ix => Nat.blt ix 1000
  | .new ix => Nat.blt ix 1000 && (match dk_new mi ix with
    | some c => Nat.blt c 100 || dk_throwok mi q.1 (c - 100)
    | none => false)
  | _ => true
theorem dk_l0 : dk_c0.all (dk_chk2 0) = true := by decide +kernel
theorem dk_l1 : dk_c1.all (dk_chk2 1) = true := by decide +kernel
theorem dk_l2 : dk_c2.all (dk_chk2 2) = true := by decide +kernel
theorem dk_l3 : dk_c3.all (dk_chk2 3) = true := by decide +kernel
theorem dk_l4 : dk_c4.all (dk_chk2 4) = true := by decide +kernel
theorem dk_l5 : dk_c5.all (dk_chk2 5) = true := by decide +kernel
theorem dk_l6 : dk_c6.all (dk_chk2 6) = true := by decide +kernel
theorem dk_l7 : dk_c7.all (dk_chk2 7) = true := by decide +kernel
theorem dk_l8 : dk_c8.all (dk_chk2 8) = true := by decide +kernel
theorem dk_l9 : dk_c9.all (dk_chk2 9) = true := by decide +kernel
theorem dk_l10 : dk_c10.all (dk_chk2 10) = true := by decide +kernel
theorem dk_l11 : dk_c11.all (dk_chk2 11) = true := by decide +kernel
theorem dk_l12 : dk_c12.all (dk_chk2 12) = true := by decide +kernel
theorem dk_l13 : dk_c13.all (dk_chk2 13) = true := by decide +kernel
theorem dk_l14 : dk_c14.all (dk_chk2 14) = true := by decide +kernel
theorem dk_l15 : dk_c15.all (dk_chk2 15) = true := by decide +kernel
theorem dk_l16 : dk_c16.all (dk_chk2 16) = true := by decide +kernel
theorem dk_l17 : dk_c17.all (dk_chk2 17) = true := by decide +kernel
theorem dk_l18 : dk_c18.all (dk_chk2 18) = true := by decide +kernel
theorem dk_l19 : dk_c19.all (dk_chk2 19) = true := by decide +kernel
theorem dk_l20 : dk_c20.all (dk_chk2 20) = true := by decide +kernel
theorem dk_l21 : dk_c21.all (dk_chk2 21) = true := by decide +kernel
theorem dk_l22 : dk_c22.all (dk_chk2 22) = true := by decide +kernel
theorem dk_l23 : dk_c23.all (dk_chk2 23) = true := by decide +kernel
theorem dk_l24 : dk_c24.all (dk_chk2 24) = true := by decide +kernel
theorem dk_l25 : dk_c25.all (dk_chk2 25) = true := by decide +kernel
theorem dk_l26 : dk_c26.all (dk_chk2 26) = true := by decide +kernel
theorem dk_l27 : dk_c27.all (dk_chk2 27) = true := by decide +kernel
theorem dk_l28 : dk_c28.all (dk_chk2 28) = true := by decide +kernel
theorem dk_l29 : dk_c29.all (dk_chk2 29) = true := by decide +kernel
theorem dk_l30 : dk_c30.all (dk_chk2 30) = true := by decide +kernel
theorem dk_l31 : dk_c31.all (dk_chk2 31) = true := by decide +kernel
theorem dk_l32 : dk_c32.all (dk_chk2 32) = true := by decide +kernel
theorem dk_l33 : dk_c33.all (dk_chk2 33) = true := by decide +kernel
theorem dk_l34 : dk_c34.all (dk_chk2 34) = true := by decide +kernel
theorem dk_l35 : dk_c35.all (dk_chk2 35) = true := by decide +kernel
theorem dk_l36 : dk_c36.all (dk_chk2 36) = true := by decide +kernel
theorem dk_l37 : dk_c37.all (dk_chk2 37) = true := by decide +kernel
theorem dk_l38 : dk_c38.all (dk_chk2 38) = true := by decide +kernel
theorem dk_l39 : dk_c39.all (dk_chk2 39) = true := by decide +kernel
theorem dk_l40 : dk_c40.all (dk_chk2 40) = true := by decide +kernel
theorem dk_l41 : dk_c41.all (dk_chk2 41) = true := by decide +kernel
theorem dk_l42 : dk_c42.all (dk_chk2 42) = true := by decide +kernel
theorem dk_l43 : dk_c43.all (dk_chk2 43) = true := by decide +kernel
theorem dk_l44 : dk_c44.all (dk_chk2 44) = true := by decide +kernel
theorem dk_l45 : dk_c45.all (dk_chk2 45) = true := by decide +kernel
theorem dk_l46 : dk_c46.all (dk_chk2 46) = true := by decide +kernel
theorem dk_l47 : dk_c47.all (dk_chk2 47) = true := by decide +kernel
theorem dk_l48 : dk_c48.all (dk_chk2 48) = true := by decide +kernel
theorem dk_l49 : dk_c49.all (dk_chk2 49) = true := by decide +kernel
theorem dk_l50 : dk_c50.all (dk_chk2 50) = true := by decide +kernel
theorem dk_l51 : dk_c51.all (dk_chk2 51) = true := by decide +kernel
theorem dk_l52 : dk_c52.all (dk_chk2 52) = true := by decide +kernel
theorem dk_l53 : dk_c53.all (dk_chk2 53) = true := by decide +kernel
theorem dk_l54 : dk_c54.all (dk_chk2 54) = true := by decide +kernel
theorem dk_l55 : dk_c55.all (dk_chk2 55) = true := by decide +kernel
theorem dk_l56 : dk_c56.all (dk_chk2 56) = true := by decide +kernel
theorem dk_l57 : dk_c57.all (dk_chk2 57) = true := by decide +kernel
theorem dk_l58 : dk_c58.all (dk_chk2 58) = true := by decide +kernel
theorem dk_l59 : dk_c59.all (dk_chk2 59) = true := by decide +kernel
theorem dk_l60 : dk_c60.all (dk_chk2 60) = true := by decide +kernel
theorem dk_l61 : dk_c61.all (dk_chk2 61) = true := by decide +kernel
theorem dk_l62 : dk_c62.all (dk_chk2 62) = true := by decide +kernel
theorem dk_l63 : dk_c63.all (dk_chk2 63) = true := by decide +kernel
theorem dk_l64 : dk_c64.all (dk_chk2 64) = true := by decide +kernel
theorem dk_l65 : dk_c65.all (dk_chk2 65) = true := by decide +kernel
theorem dk_l66 : dk_c66.all (dk_chk2 66) = true := by decide +kernel
theorem dk_l67 : dk_c67.all (dk_chk2 67) = true := by decide +kernel
theorem dk_l68 : dk_c68.all (dk_chk2 68) = true := by decide +kernel
theorem dk_l69 : dk_c69.all (dk_chk2 69) = true := by decide +kernel
theorem dk_l70 : dk_c70.all (dk_chk2 70) = true := by decide +kernel
theorem dk_l71 : dk_c71.all (dk_chk2 71) = true := by decide +kernel
theorem dk_l72 : dk_c72.all (dk_chk2 72) = true := by decide +kernel
theorem dk_l73 : dk_c73.all (dk_chk2 73) = true := by decide +kernel
theorem dk_l74 : dk_c74.all (dk_chk2 74) = true := by decide +kernel
theorem dk_l75 : dk_c75.all (dk_chk2 75) = true := by decide +kernel
theorem dk_l76 : dk_c76.all (dk_chk2 76) = true := by decide +kernel
theorem dk_l77 : dk_c77.all (dk_chk2 77) = true := by decide +kernel
theorem dk_l78 : dk_c78.all (dk_chk2 78) = true := by decide +kernel
theorem dk_l79 : dk_c79.all (dk_chk2 79) = true := by decide +kernel
theorem dk_l80 : dk_c80.all (dk_chk2 80) = true := by decide +kernel
theorem dk_l81 : dk_c81.all (dk_chk2 81) = true := by decide +kernel
theorem dk_l82 : dk_c82.all (dk_chk2 82) = true := by decide +kernel
theorem dk_l83 : dk_c83.all (dk_chk2 83) = true := by decide +kernel
theorem dk_l84 : dk_c84.all (dk_chk2 84) = true := by decide +kernel
theorem dk_l85 : dk_c85.all (dk_chk2 85) = true := by decide +kernel
theorem dk_l86 : dk_c86.all (dk_chk2 86) = true := by decide +kernel
theorem dk_l87 : dk_c87.all (dk_chk2 87) = true := by decide +kernel
theorem dk_l88 : dk_c88.all (dk_chk2 88) = true := by decide +kernel
theorem dk_l89 : dk_c89.all (dk_chk2 89) = true := by decide +kernel
theorem dk_l90 : dk_c90.all (dk_chk2 90) = true := by decide +kernel
theorem dk_l91 : dk_c91.all (dk_chk2 91) = true := by decide +kernel
theorem dk_l92 : dk_c92.all (dk_chk2 92) = true := by decide +kernel
theorem dk_l93 : dk_c93.all (dk_chk2 93) = true := by decide +kernel
theorem dk_l94 : dk_c94.all (dk_chk2 94) = true := by decide +kernel
theorem dk_l95 : dk_c95.all (dk_chk2 95) = true := by decide +kernel
theorem dk_l96 : dk_c96.all (dk_chk2 96) = true := by decide +kernel
theorem dk_l97 : dk_c97.all (dk_chk2 97) = true := by decide +kernel
theorem dk_l98 : dk_c98.all (dk_chk2 98) = true := by decide +kernel
theorem dk_l99 : dk_c99.all (dk_chk2 99) = true := by decide +kernel
theorem dk_l100 : dk_c100.all (dk_chk2 100) = true := by decide +kernel
theorem dk_l101 : dk_c101.all (dk_chk2 101) = true := by decide +kernel
theorem dk_l102 : dk_c102.all (dk_chk2 102) = true := by decide +kernel
theorem dk_l103 : dk_c103.all (dk_chk2 103) = true := by decide +kernel
theorem dk_l104 : dk_c104.all (dk_chk2 104) = true := by decide +kernel
theorem dk_lall (mi : Nat) : (dk_code mi).all (dk_chk2 mi) = true := by
  match mi with
  | 0 => exact dk_l0
  | 1 => exact dk_l1
  | 2 => exact dk_l2
  | 3 => exact dk_l3
  | 4 => exact dk_l4
  | 5 => exact dk_l5
  | 6 => exact dk_l6
  | 7 => exact dk_l7
  | 8 => exact dk_l8
  | 9 => exact dk_l9
  | 10 => exact dk_l10
  | 11 => exact dk_l11
  | 12 => exact dk_l12
  | 13 => exact dk_l13
  | 14 => exact dk_l14
  | 15 => exact dk_l15
  | 16 => exact dk_l16
  | 17 => exact dk_l17
  | 18 => exact dk_l18
  | 19 => exact dk_l19
  | 20 => exact dk_l20
  | 21 => exact dk_l21
  | 22 => exact dk_l22
  | 23 => exact dk_l23
  | 24 => exact dk_l24
  | 25 => exact dk_l25
  | 26 => exact dk_l26
  | 27 => exact dk_l27
  | 28 => exact dk_l28
  | 29 => exact dk_l29
  | 30 => exact dk_l30
  | 31 => exact dk_l31
  | 32 => exact dk_l32
  | 33 => exact dk_l33
  | 34 => exact dk_l34
  | 35 => exact dk_l35
  | 36 => exact dk_l36
  | 37 => exact dk_l37
  | 38 => exact dk_l38
  | 39 => exact dk_l39
  | 40 => exact dk_l40
  | 41 => exact dk_l41
  | 42 => exact dk_l42
  | 43 => exact dk_l43
  | 44 => exact dk_l44
  | 45 => exact dk_l45
  | 46 => exact dk_l46
  | 47 => exact dk_l47
  | 48 => exact dk_l48
  | 49 => exact dk_l49
  | 50 => exact dk_l50
  | 51 => exact dk_l51
  | 52 => exact dk_l52
  | 53 => exact dk_l53
  | 54 => exact dk_l54
  | 55 => exact dk_l55
  | 56 => exact dk_l56
  | 57 => exact dk_l57
  | 58 => exact dk_l58
  | 59 => exact dk_l59
  | 60 => exact dk_l60
  | 61 => exact dk_l61
  | 62 => exact dk_l62
  | 63 => exact dk_l63
  | 64 => exact dk_l64
  | 65 => exact dk_l65
  | 66 => exact dk_l66
  | 67 => exact dk_l67
  | 68 => exact dk_l68
  | 69 => exact dk_l69
  | 70 => exact dk_l70
  | 71 => exact dk_l71
  | 72 => exact dk_l72
  | 73 => exact dk_l73
  | 74 => exact dk_l74
  | 75 => exact dk_l75
  | 76 => exact dk_l76
  | 77 => exact dk_l77
  | 78 => exact dk_l78
  | 79 => exact dk_l79
  | 80 => exact dk_l80
  | 81 => exact dk_l81
  | 82 => exact dk_l82
  | 83 => exact dk_l83
  | 84 => exact dk_l84
  | 85 => exact dk_l85
  | 86 => exact dk_l86
  | 87 => exact dk_l87
  | 88 => exact dk_l88
  | 89 => exact dk_l89
  | 90 => exact dk_l90
  | 91 => exact dk_l91
  | 92 => exact dk_l92
  | 93 => exact dk_l93
  | 94 => exact dk_l94
  | 95 => exact dk_l95
  | 96 => exact dk_l96
  | 97 => exact dk_l97
  | 98 => exact dk_l98
  | 99 => exact dk_l99
  | 100 => exact dk_l100
  | 101 => exact dk_l101
  | 102 => exact dk_l102
  | 103 => exact dk_l103
  | 104 => exact dk_l104
  | n + 105 => rfl
theorem dk_ent {mi pc : Nat} {en : dkE} (h : dk_find (dk_code mi) pc = some en) : dk_chk2 mi (pc, en) = true := List.all_eq_true.mp (dk_lall mi) _ (dk_find_mem _ _ _ h)
