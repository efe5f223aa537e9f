/-! arguments, references laid -/
def dk_canon (a : dkI) : Bool := match a.1 with
  | 2 => a.2.2 == 0
  | 3 => a.2.2 == 0
  | 4 => a.2.2 == 0
  | 7 => a.2.2 == 0
  | 5 => true
  | 8 => true
  | _ => a.2.1 == 0 && a.2.2 == 0
def dk_argk (s : Nat) (v : dkV) : Bool := match v with
  | .inl _ => s == 10 || s == 11
  | .inr (.inl a) => dk_canon a && ((s == 12 && a.1 == 14) || (s == 13 && a.1 == 15) || (Nat.ble 20 s && dk_kind a.1 == s - 20))
  | .inr (.inr _) => false
def dk_argok : List Nat → List dkV → Bool
  | [], [] => true
  | s :: ss, v :: vs => dk_argk s v && dk_argok ss vs
  | _, _ => false
/-- how many slots of an object may hold references -/
def dk_nr (a : dkI) : Nat := if dk_kind a.1 < 50 then dk_N (dk_kind a.1) else if dk_kind a.1 < 53 then 0 else dk_len 0 a
def dk_allLaid (g : dkI → Nat → Bool) (made : Nat) : Bool := made == dk_sch.length && dk_sch.all (fun a => (List.range (dk_nr a)).all (fun f => match dk_rf a f with
  | some _ => g a f
  | none => true))
/-! one instruction, in continuation style. go: the run with less fuel (its first argument takes the end); kr: what is done with the end of this method -/
section
variable (L : Nat) (O : Nat → List dkV → dkH → dkR)
def dk_after (go : (dkY → dkR) → dkS → dkR) (kr : dkY → dkR) (mi pc : Nat) (ls : dkL) (rest : List dkV) (y : dkY) : dkR := match y.2 with
  | .inl none => go kr (mi, pc + 3, ls, rest, y.1)
  | .inl (some v) => go kr (mi, pc + 3, ls, v :: rest, y.1)
  | .inr e => match dk_hnd mi pc e with
    | some t => go kr (mi, t.1, dk_del ls t.2, [], y.1)
    | none => if dk_han mi = [] then kr y else none
def dk_call (go : (dkY → dkR) → dkS → dkR) (kr : dkY → dkR) (mi pc : Nat) (ls : dkL) (st : List dkV) (h : dkH) (kd0 : Nat) (c : Nat × Nat × Nat × Nat × Bool) : dkR := match c with
  | (0, callee, n, kd, _) =>
    if callee < mi ∧ kd = kd0 ∧ (st.drop n).length ≤ 4 ∧ dk_argok (dk_sig callee) (st.take n).reverse = true then
      go (dk_after go kr mi pc ls (st.drop n)) (callee, 0, dk_args 0 (st.take n).reverse, [], h)
    else none
  | (1, callee, n, kd, _) =>
    if callee < mi ∧ kd = kd0 ∧ (st.drop n).length ≤ 4 ∧ dk_argok (dk_sig callee) (st.take n).reverse = true then
      match O callee (st.take n).reverse h with
      | some y => dk_after go kr mi pc ls (st.drop n) y
      | none => none
    else none
  | (2, _, _, kd, _) => match st with
    | .inr (.inl _) :: r => if kd = kd0 ∧ kd0 = 1 ∧ r.length ≤ 4 then go kr (mi, pc + 3, ls, r, h) else none
    | _ => none
  | (3, _, _, kd, _) => match st with
    | .inl y :: .inl x :: r => if kd = kd0 ∧ kd0 = 2 ∧ r.length ≤ 4 then (if x < y then go kr (mi, pc + 3, ls, vI y :: r, h) else go kr (mi, pc + 3, ls, vI x :: r, h)) else none
    | _ => none
  | (4, _, _, kd, _) => match st with
    | .inl y :: .inl x :: r => if kd = kd0 ∧ kd0 = 2 ∧ r.length ≤ 4 then (if y < x then go kr (mi, pc + 3, ls, vI y :: r, h) else go kr (mi, pc + 3, ls, vI x :: r, h)) else none
    | _ => none
  | _ => none
def dk_step (go : (dkY → dkR) → dkS → dkR) (kr : dkY → dkR) (mi pc : Nat) (en : dkE) (ls : dkL) (st : List dkV) (h : dkH) : dkR := match en with
  | (ins, len, tg, sw) => match ins with
    | .iconst v => go kr (mi, pc + len, ls, vI (Int32.ofInt v) :: st, h)
    | .bipush v => go kr (mi, pc + len, ls, vI (Int8.ofInt v).toInt32 :: st, h)
    | .sipush v => go kr (mi, pc + len, ls, vI (Int16.ofInt v).toInt32 :: st, h)
    | .lconst v => go kr (mi, pc + len, ls, vL (Int64.ofNat v.val) :: st, h)
    | .ldc ix => match dk_ldc mi ix with
      | some x => go kr (mi, pc + len, ls, vI x :: st, h)
      | none => none
    | .iload_n k => match dk_get ls k.val with
      | some (.inl x) => go kr (mi, pc + len, ls, vI x :: st, h)
      | _ => none
    | .iload k => match dk_get ls k with
      | some (.inl x) => go kr (mi, pc + len, ls, vI x :: st, h)
      | _ => none
    | .aload_n k => match dk_get ls k.val with
      | some (.inr (.inl a)) => go kr (mi, pc + len, ls, vR a :: st, h)
      | _ => none
    | .aload k => match dk_get ls k with
      | some (.inr (.inl a)) => go kr (mi, pc + len, ls, vR a :: st, h)
      | _ => none
    | .istore_n k => match st with
      | .inl x :: r => if k.val < dk_maxL mi then go kr (mi, pc + len, dk_set ls k.val (vI x), r, h) else none
      | _ => none
    | .istore k => match st with
      | .inl x :: r => if k < dk_maxL mi then go kr (mi, pc + len, dk_set ls k (vI x), r, h) else none
      | _ => none
    | .astore_n k => match st with
      | .inr (.inl a) :: r => if k.val < dk_maxL mi then go kr (mi, pc + len, dk_set ls k.val (vR a), r, h) else none
      | _ => none
    | .astore k => match st with
      | .inr (.inl a) :: r => if k < dk_maxL mi then go kr (mi, pc + len, dk_set ls k (vR a), r, h) else none
      | _ => none
    | .iinc k n => match dk_get ls k with
      | some (.inl x) => if k < dk_maxL mi then go kr (mi, pc + len, dk_set ls k (vI (x + Int32.ofInt n)), st, h) else none
      | _ => none
    | .iadd => match st with
      | .inl y :: .inl x :: r => go kr (mi, pc + len, ls, vI (x + y) :: r, h)
      | _ => none
    | .isub => match st with
      | .inl y :: .inl x :: r => go kr (mi, pc + len, ls, vI (x - y) :: r, h)
      | _ => none
    | .imul => match st with
      | .inl y :: .inl x :: r => go kr (mi, pc + len, ls, vI (x * y) :: r, h)
      | _ => none
    | .iand => match st with
      | .inl y :: .inl x :: r => go kr (mi, pc + len, ls, vI (x &&& y) :: r, h)
      | _ => none
    | .idiv => match st with
      | .inl y :: .inl x :: r => if y = 0 then none else go kr (mi, pc + len, ls, vI (x / y) :: r, h)
      | _ => none
    | .irem => match st with
      | .inl y :: .inl x :: r => if y = 0 then none else go kr (mi, pc + len, ls, vI (x - x / y * y) :: r, h)
      | _ => none
    | .i2l => match st with
      | .inl x :: r => go kr (mi, pc + len, ls, vL x.toInt64 :: r, h)
      | _ => none
    | .lcmp => match st with
      | .inr (.inr y) :: .inr (.inr x) :: r => go kr (mi, pc + len, ls, vI (lg_cmp x y) :: r, h)
      | _ => none
    | .dup => match st with
      | .inl x :: r => go kr (mi, pc + len, ls, vI x :: vI x :: r, h)
      | .inr (.inl a) :: r => go kr (mi, pc + len, ls, vR a :: vR a :: r, h)
      | _ => none
    | .dup2 => match st with
      | .inl y :: .inr (.inl a) :: r => go kr (mi, pc + len, ls, vI y :: vR a :: vI y :: vR a :: r, h)
      | _ => none
    | .goto _ => go kr (mi, tg, ls, st, h)
    | .ifCond c _ => match st with
      | .inl x :: r => dk_cond c x 0 (go kr (mi, tg, ls, r, h)) (go kr (mi, pc + len, ls, r, h))
      | _ => none
    | .if_icmp c _ => match st with
      | .inl y :: .inl x :: r => dk_cond c x y (go kr (mi, tg, ls, r, h)) (go kr (mi, pc + len, ls, r, h))
      | _ => none
    | .tableswitch _ _ _ _ => match st with
      | .inl x :: r => dk_sw (fun t => go kr (mi, t, ls, r, h)) tg x sw
      | _ => none
    | .getfield ix => match dk_fld mi ix, st with
      | some (ci, f, 2, _), .inr (.inl a) :: r =>
        if dk_kind a.1 = ci ∧ dk_laid h.2.2.1 a f = true then (match dk_rf a f with
          | some b => go kr (mi, pc + len, ls, vR b :: r, h)
          | none => none) else none
      | some (ci, f, 0, _), .inr (.inl a) :: r => if dk_kind a.1 = ci then go kr (mi, pc + len, ls, vI (h.1 a f) :: r, h) else none
      | some (ci, f, 1, _), .inr (.inl a) :: r => if dk_kind a.1 = ci then go kr (mi, pc + len, ls, vI (h.1 a f) :: r, h) else none
      | _, _ => none
    | .putfield ix => match dk_fld mi ix, st with
      | some (ci, f, 2, _), .inr (.inl b) :: .inr (.inl a) :: r =>
        if dk_kind a.1 = ci ∧ dk_rf a f = some b then go kr (mi, pc + len, ls, r, (h.1, h.2.1, dk_lay h.2.2.1 a f, h.2.2.2)) else none
      | some (ci, f, 0, _), .inl x :: .inr (.inl a) :: r => if dk_kind a.1 = ci then go kr (mi, pc + len, ls, r, (dk_up h.1 a f x, h.2)) else none
      | some (ci, f, 1, _), .inl x :: .inr (.inl a) :: r => if dk_kind a.1 = ci ∧ (x = 0 ∨ x = 1) then go kr (mi, pc + len, ls, r, (dk_up h.1 a f x, h.2)) else none
      | _, _ => none
    | .iaload => match st with
      | .inl i :: .inr (.inl a) :: r => if dk_kind a.1 = 50 ∧ ¬ (i < 0 ∨ dk_len L a ≤ i.toNatClampNeg) then go kr (mi, pc + len, ls, vI (h.1 a i.toNatClampNeg) :: r, h) else none
      | _ => none
    | .baload => match st with
      | .inl i :: .inr (.inl a) :: r => if dk_kind a.1 = 51 ∧ ¬ (i < 0 ∨ dk_len L a ≤ i.toNatClampNeg) then go kr (mi, pc + len, ls, vI (h.1 a i.toNatClampNeg) :: r, h) else none
      | _ => none
    | .laload => match st with
      | .inl i :: .inr (.inl a) :: r => if dk_kind a.1 = 52 ∧ i = 0 then go kr (mi, pc + len, ls, vL h.2.1 :: r, h) else none
      | _ => none
    | .aaload => match st with
      | .inl i :: .inr (.inl a) :: r => if 53 ≤ dk_kind a.1 ∧ ¬ (i < 0 ∨ dk_len L a ≤ i.toNatClampNeg) ∧ dk_laid h.2.2.1 a i.toNatClampNeg = true then (match dk_rf a i.toNatClampNeg with
          | some b => go kr (mi, pc + len, ls, vR b :: r, h)
          | none => none) else none
      | _ => none
    | .iastore => match st with
      | .inl x :: .inl i :: .inr (.inl a) :: r => if dk_kind a.1 = 50 ∧ a.1 ≠ 15 ∧ ¬ (i < 0 ∨ dk_len L a ≤ i.toNatClampNeg) then go kr (mi, pc + len, ls, r, (dk_up h.1 a i.toNatClampNeg x, h.2)) else none
      | _ => none
    | .bastore => match st with
      | .inl x :: .inl i :: .inr (.inl a) :: r => if dk_kind a.1 = 51 ∧ (x = 0 ∨ x = 1) ∧ ¬ (i < 0 ∨ dk_len L a ≤ i.toNatClampNeg) then go kr (mi, pc + len, ls, r, (dk_up h.1 a i.toNatClampNeg x, h.2)) else none
      | _ => none
    | .lastore => match st with
      | .inr (.inr x) :: .inl i :: .inr (.inl a) :: r => if dk_kind a.1 = 52 ∧ i = 0 then go kr (mi, pc + len, ls, r, (h.1, x, h.2.2)) else none
      | _ => none
    | .aastore => match st with
      | .inr (.inl b) :: .inl i :: .inr (.inl a) :: r => if 53 ≤ dk_kind a.1 ∧ ¬ (i < 0 ∨ dk_len L a ≤ i.toNatClampNeg) ∧ dk_rf a i.toNatClampNeg = some b then go kr (mi, pc + len, ls, r, (h.1, h.2.1, dk_lay h.2.2.1 a i.toNatClampNeg, h.2.2.2)) else none
      | _ => none
    | .arraylength => match st with
      | .inr (.inl a) :: r => if a.1 = 15 then go kr (mi, pc + len, ls, vI (Int32.ofNat (dk_len L a)) :: r, h) else none
      | _ => none
    | .new ix => match dk_new mi ix with
      | some c => if 100 ≤ c then (match h.2.2.1 with
          | .inl _ => if h.2.2.2.2 < 600 ∧ st.length ≤ 4 then kr ((h.1, h.2.1, h.2.2.1, h.2.2.2.1, h.2.2.2.2 + 1), .inr (c - 100)) else none
          | .inr _ => none)
        else (match h.2.2.1, dk_sch[h.2.2.2.1]? with
          | .inr _, some a => if dk_kind a.1 = c ∧ h.2.2.2.2 = 0 then go kr (mi, pc + len, ls, vR a :: st, (h.1, h.2.1, h.2.2.1, h.2.2.2.1 + 1, h.2.2.2.2)) else none
          | _, _ => none)
      | none => none
    | .newarray ty => match st with
      | .inl n :: r => (match h.2.2.1, dk_sch[h.2.2.2.1]? with
          | .inr _, some a => if dk_kind a.1 = dk_prim ty ∧ h.2.2.2.2 = 0 ∧ ¬ n < 0 ∧ n.toNatClampNeg = dk_len L a ∧ (dk_prim ty ≠ 52 ∨ h.2.1 = 0) then go kr (mi, pc + len, ls, vR a :: r, (h.1, h.2.1, h.2.2.1, h.2.2.2.1 + 1, h.2.2.2.2)) else none
          | _, _ => none)
      | _ => none
    | .anewarray ix => match dk_anew mi ix, st with
      | some c, .inl n :: r => (match h.2.2.1, dk_sch[h.2.2.2.1]? with
          | .inr _, some a => if dk_kind a.1 = c ∧ h.2.2.2.2 = 0 ∧ ¬ n < 0 ∧ n.toNatClampNeg = dk_len L a then go kr (mi, pc + len, ls, vR a :: r, (h.1, h.2.1, h.2.2.1, h.2.2.2.1 + 1, h.2.2.2.2)) else none
          | _, _ => none)
      | _, _ => none
    | .invokevirtual ix => match dk_callT mi ix with
      | some c => dk_call O go kr mi pc ls st h 0 c
      | none => none
    | .invokespecial ix => match dk_callT mi ix with
      | some c => dk_call O go kr mi pc ls st h 1 c
      | none => none
    | .invokestatic ix => match dk_callT mi ix with
      | some c => dk_call O go kr mi pc ls st h 2 c
      | none => none
    | .ireturn => match st with
      | [.inl x] => if dk_ret mi = 1 ∨ (dk_ret mi = 2 ∧ (x = 0 ∨ x = 1)) then kr (h, .inl (some (vI x))) else none
      | _ => none
    | .areturn => match st with
      | [.inr (.inl a)] => if dk_ret mi = 3 then kr (h, .inl (some (vR a))) else none
      | _ => none
    | .return_ => match st with
      | [] => if dk_ret mi = 0 then kr (h, .inl none) else none
      | _ => none
    | _ => none
def dk_run : Nat → (dkY → dkR) → dkS → dkR
  | 0, _, _ => none
  | n + 1, kr, (mi, pc, ls, st, h) => match dk_find (dk_code mi) pc with
    | none => none
    | some en => if mi = dk_law ∧ pc = dk_head then (match h.2.2.1 with
        | .inr g => if dk_allLaid g h.2.2.2.1 = true then dk_run n kr (mi, pc, ls, st, (h.1, h.2.1, .inl (), h.2.2.2)) else none
        | .inl _ => dk_step L O (dk_run n) kr mi pc en ls st h) else dk_step L O (dk_run n) kr mi pc en ls st h
end
